/-! ===== the types of the unknowns stay: solving ===== -/
theorem c_dx_un {tv tc : Int → rf_T} {tm : Int → Int → rf_T} {sL : Nat} {sx : Nat → Int32} (hsL : sL ≤ 3072) (d : Nat) (hd : 12 ≤ d) : ∀ (ar : Int → Int) (AR : Nat → List Int) (l : vw_L) (s : sx_S) (K : Int → sx_S → Prop), cx_I s → dv_X tv tc tm s ar AR l → (∀ S th, vx_le (dv_S0 s ar AR) S → vx_So S th → dv_Q AR l th → vw_B l S → (∀ u B e, S.2.2.2.1 u = some (B, e) → ¬ vx_isl B) → vw_F S l < 1000000) → (∀ t, ¬ dv_sat (s.1 22 2) ar (dv_Q AR l) → K 0 t) → (∀ t S PR tm', dx_tm (dv_S0 s ar AR) tm tm' → dv_G tv tc (s.1 22 2) (dv_Q AR l) t S PR tm' [] [] → vx_le (dv_S0 s ar AR) S → dx_fr s t → vw_B l S → K 1 t) → sx_C sL sx d 70 [.inr (.inl 38), .inr (.inl 18)] s K := by
  intro ar AR l s K hI hX hcap hK0 hK1
  obtain ⟨x1, x2, x3, ⟨x4, x5⟩, x6⟩ := hX trivial
  have x6' : ∀ q ∈ l, ∃ t, dv_s1 tv tc tm (dv_S0 s ar AR) t q.1 ∧ dv_s1 tv tc tm (dv_S0 s ar AR) t q.2 := fun q hq => by
    obtain ⟨i, hi, e⟩ := List.getElem_of_mem hq
    exact (x6 i q.1 q.2 (by rw [List.getElem?_eq_getElem hi, e])).2
  have hmt : ∀ q ∈ l, (∀ m, vx_mt m q.1 → 0 ≤ m ∧ m < s.1 22 2) ∧ ∀ m, vx_mt m q.2 → 0 ≤ m ∧ m < s.1 22 2 := fun q hq => by
    obtain ⟨t, h1, h2⟩ := x6' q hq
    exact ⟨(h1 trivial).1.1.1, (h2 trivial).1.1.1⟩
  have hQ := dv_Q_ag (AR := AR) hmt
  have hM : ∀ m C, vw_M l C → vx_mt m C → m < s.1 22 2 := fun m C ⟨q, hq, h⟩ hm => by
    rcases h with h | h
    · exact ((hmt q hq).1 m (vw_su_mt hm h)).2
    · exact ((hmt q hq).2 m (vw_su_mt hm h)).2
  obtain ⟨d, rfl⟩ : ∃ e, d = e + 2 := ⟨d - 2, by omega⟩
  refine sx_methL (wr := true) (n := 400) (n' := 400) (stop := [(33, [0, 1, 2]), (70, [0, 2, 3])]) (fun nn pc ls u => (pc = 33 ∧ ∃ x2 : Int, ls = [(0, .inr (.inl 38)), (1, .inr (.inl 18)), (2, .inl x2)] ∧ (-1 ≤ x2 ∧ x2 < s.1 18 10) ∧ cx_I u ∧ cx_F [(29, 29), (33, 35), (39, 45)] s u ∧ u.1 33 6 = s.1 22 2 ∧ (∀ i : Nat, i < 32 → u.2.1 34 i = -1) ∧ u.1 29 3 = 0 ∧ u.1 39 6 = ((l.drop (x2 + 1).toNat).length : Int) ∧ dv_ps u AR 0 (dv_r0 (l.drop (x2 + 1).toNat)) ∧ nn = 2000000 + (x2 + 1).toNat) ∨ (pc = 70 ∧ ∃ (x2 : Int) (x3 : Nat), ls = [(0, .inr (.inl 38)), (2, .inl x2), (3, .inl (x3 : Int))] ∧ x3 ≤ 1000000 ∧ nn = 1000001 - x3 ∧ ((x2 = 0 ∧ cx_I u ∧ vx_NO (s.1 22 2) (dv_Q AR l) (dv_S0 s ar AR)) ∨ (x2 = 1 ∧ ∃ S PR tm' r, dx_tm (dv_S0 s ar AR) tm tm' ∧ dv_G tv tc (s.1 22 2) (dv_Q AR l) u S PR tm' [] r ∧ vx_le (dv_S0 s ar AR) S ∧ dx_fr s u ∧ vw_TI l (s.1 22 2).toNat (dv_Q AR l) x3 S r)))) hsL (e := eX6_unifies) rfl ?_ ?_
  · refine w_dv_un (c_dv_unk hsL (d + 1) (by omega)) (c_dv_eqs hsL (d + 1) (by omega)) (c_dv_rel hsL (d + 1) (by omega)) (c_dv_pclear39 hsL (d + 1) (by omega)) (c_dv_cl hsL (d + 1) (by omega)) hI (fun t t1 t2 t3 t4 t5 t6 t7 => ⟨_, Or.inl ⟨rfl, s.1 18 10 - 1, rfl, by omega, t1, cx_F_step t2 rfl (cx_F_refl _ _), t3, t4, t6, ?_, ?_, rfl⟩⟩)
    · rw [t7, List.length_drop]
      omega
    · rw [List.drop_eq_nil_of_le (by omega)]
      trivial
  · rintro nn pc ls u (⟨rfl, y2, rfl, j1, j2, j3, j4, j5, j6, j7, j8, rfl⟩ | ⟨rfl, y2, y3, rfl, i1, rfl, i2⟩)
    · have e18 : u.1 18 = s.1 18 := (j3.same 18 rfl).1
      have e26 : u.2.1 26 = s.2.1 26 := (j3.same 26 rfl).2
      have len : ((l.drop (y2 + 1).toNat).length : Int) = s.1 18 10 - (y2 + 1) := by
        rw [List.length_drop]
        omega
      have a26 : ∀ i, -2147483648 ≤ u.2.1 26 i ∧ u.2.1 26 i ≤ 2147483647 := fun i => by
        have := j2.arr 26 (by decide) rfl i
        omega
      refine w_dv_un33 (c_dv_rt hsL (d + 1) (by omega)) (fun a0 a1 a2 a3 a4 a5 s' R => c_dv_pair39 hsL (d + 1) (by omega) a0 a1 a2 a3 a4 a5 s' R) j2 (by rw [e18]; exact j1) (by omega) (fun _ => ⟨a26 _, a26 _⟩) (fun hx => ?_) (fun hx t t1 t2 t3 => ?_)
      · refine ⟨1000001, by omega, Or.inr ⟨rfl, 1, 0, rfl, by omega, rfl, Or.inr ⟨rfl, dv_S0 s ar AR, fun _ => [], tm, dv_r0 l, fun _ _ _ => rfl, ?_, vx_le_refl _, dx_fr_F j3 (cx_F_step j3 rfl (cx_F_refl _ _)) (by decide), ?_⟩⟩⟩
        · have ed : l.drop (y2 + 1).toNat = l := by
            rw [show (y2 + 1).toNat = 0 by omega]
            rfl
          rw [ed] at j7 j8
          exact dv_G0 hX j2 j3 j4 j5 j6 j7 j8
        · refine vw_TI_0 (by omega) ?_ (fun q hq => ?_) (fun _ => rfl)
          · unfold dv_r0
            rw [List.map_map]
            exact List.map_id' l
          · obtain ⟨t, h1, h2⟩ := x6' q hq
            exact ⟨(h1 trivial).1.2.1, (h2 trivial).1.2.1⟩
      · obtain ⟨p1, p2, p3, p4, p5, p6, p7, p8⟩ := t3 trivial
        have hy : y2.toNat < l.length := by omega
        have ed : l.drop (y2 - 1 + 1).toNat = l[y2.toNat] :: l.drop (y2 + 1).toNat := by
          rw [show (y2 - 1 + 1).toNat = y2.toNat by omega, show (y2 + 1).toNat = y2.toNat + 1 by omega]
          exact List.drop_eq_getElem_cons hy
        obtain ⟨⟨w1, w2⟩, _⟩ := x6 y2.toNat (l[y2.toNat]).1 (l[y2.toNat]).2 (by rw [List.getElem?_eq_getElem hy])
        have nf : dv_nf (s.1 11 6) AR AR s t := dv_nf_F _ (cx_F_step t2 rfl j3) (by decide)
        have nf' : dv_nf (u.1 11 6) AR AR u t := dv_nf_F _ t2 (by decide)
        have rl : (dv_r0 (l.drop (y2 + 1).toNat)).length = (u.1 39 6).toNat := by
          unfold dv_r0
          rw [List.length_map]
          omega
        refine ⟨2000000 + (y2 - 1 + 1).toNat, by omega, Or.inl ⟨rfl, y2 - 1, rfl, by omega, t1, cx_F_step t2 rfl j3, by rw [(t2.same 33 rfl).1]; exact j4, fun i hi => by rw [(t2.same 34 rfl).2]; exact j5 i hi, by rw [(t2.same 29 rfl).1]; exact j6, ?_, ?_, rfl⟩⟩
        · rw [ed, List.length_cons, p1, j7]
          omega
        · rw [ed]
          show dv_ps t AR 0 (((l[y2.toNat].1, []), (l[y2.toNat].2, []), 0, 0) :: dv_r0 (l.drop (y2 + 1).toNat))
          refine ⟨⟨Int.le_refl _, Int.le_refl _⟩, ⟨?_, ?_⟩, ⟨?_, ?_⟩, ⟨?_, ?_⟩, ?_⟩
          · rw [rl]
            show dv_at t AR _ (t.2.1 (39 + 1) _)
            rw [p3]
            show dv_at t AR _ (u.2.1 26 (2 * y2 + 0).toNat)
            rw [e26, show (2 * y2 + 0).toNat = 2 * y2.toNat by omega]
            exact dv_at_fr (Int.le_refl _) nf w1
          · rw [rl]
            show t.2.1 (39 + 2) _ = -1
            exact p4
          · rw [rl]
            show dv_at t AR _ (t.2.1 (39 + 3) _)
            rw [p5]
            show dv_at t AR _ (u.2.1 26 (2 * y2 + 1).toNat)
            rw [e26, show (2 * y2 + 1).toNat = 2 * y2.toNat + 1 by omega]
            exact dv_at_fr (Int.le_refl _) nf w2
          · rw [rl]
            show t.2.1 (39 + 4) _ = -1
            exact p6
          · rw [rl]
            exact p7
          · rw [rl]
            exact p8
          · refine dv_ps_fr (Int.le_refl _) nf' (fun i hi => ?_) (fun i hi => ?_) j8
            · have hi' : (i : Int) < 0 := hi
              omega
            · obtain ⟨z1, z2, z3, z4, z5, z6⟩ := p2 i (by omega)
              exact ⟨z1, z2, z3, z4, z5, z6⟩
    · have hIu : cx_I u := by
        rcases i2 with ⟨_, h, _⟩ | ⟨_, S, PR, tm', r, _, h, _⟩
        · exact h
        · exact (h trivial).1
      have hno : vx_NO (s.1 22 2) (dv_Q AR l) (dv_S0 s ar AR) → ¬ dv_sat (s.1 22 2) ar (dv_Q AR l) := fun hn ⟨th, g, sc, q⟩ => hn th g sc q
      refine w_dv_un70 (G := fun z t => (z = 0 ∧ cx_I t ∧ vx_NO (s.1 22 2) (dv_Q AR l) (dv_S0 s ar AR)) ∨ (z = 1 ∧ ∃ S PR tm' r, dx_tm (dv_S0 s ar AR) tm tm' ∧ dv_G tv tc (s.1 22 2) (dv_Q AR l) t S PR tm' [] r ∧ vx_le (dv_S0 s ar AR) S ∧ dx_fr s t ∧ vw_TI l (s.1 22 2).toNat (dv_Q AR l) (y3 + 1) S r)) (c_dv_pempty39 hsL (d + 1) (by omega)) (fun hx hne K' hK' => ?_) (fun z t ht => ?_) hIu ?_ (by omega) (fun hx => ?_) (fun hx h0 => ?_) (fun hx h0 h3 => ?_) (fun hx h0 h3 z t ht => ?_)
      · rcases i2 with ⟨e, _⟩ | ⟨_, S, PR, tm', r, zx, hG, hle, hfr, hTI⟩
        · omega
        · obtain ⟨g1, g2, g3, g4, ⟨g5, g6⟩, g7, g8⟩ := hG trivial
          obtain ⟨⟨W, B1, Sc, rk, hrk⟩, _⟩ := g3 trivial
          cases r with
          | nil => exact absurd g6 hne
          | cons p r =>
            exact c_dx_st hsL (d + 1) (by omega) hQ S PR tm' p r u K' hG (fun t t1 t2 => hK' 0 t (Or.inl ⟨rfl, t1, vx_NO_le hle (Int.le_refl _) t2⟩)) (fun t S' PR' tm'' r' t0 t1 t2 t3 t4 => hK' 1 t (Or.inr ⟨rfl, S', PR', tm'', r', dx_tm_t hle.1.1 zx t0, t2, vx_le_trans hle t1, dx_fr_t hfr t4, vw_TI_st hM x1.1 W t1 (fun th hS hq => g8.2.1 th hS hq _ List.mem_cons_self) hTI t3⟩))
      · rcases ht with ⟨q, _⟩ | ⟨q, _⟩
        · exact Or.inl q
        · exact Or.inr q
      · rcases i2 with ⟨q, _⟩ | ⟨q, _⟩
        · exact Or.inl q
        · exact Or.inr q
      · rcases i2 with ⟨_, _, q⟩ | ⟨q, _⟩
        · exact hK0 u (hno q)
        · omega
      · rcases i2 with ⟨q, _⟩ | ⟨_, S, PR, tm', r, zx, hG, hle, hfr, hTI⟩
        · omega
        · obtain ⟨g1, g2, g3, g4, ⟨g5, g6⟩, g7, g8⟩ := hG trivial
          obtain ⟨⟨W, B1, Sc, rk, hrk⟩, _⟩ := g3 trivial
          have er : r = [] := List.length_eq_zero_iff.mp (by omega)
          subst er
          exact hK1 u S PR tm' zx hG hle hfr (hTI trivial).2.1
      · rcases i2 with ⟨q, _⟩ | ⟨_, S, PR, tm', r, zx, hG, hle, hfr, hTI⟩
        · omega
        · obtain ⟨g1, g2, g3, g4, ⟨g5, g6⟩, g7, g8⟩ := hG trivial
          refine hK0 u (fun ⟨th0, gd, sc, q0⟩ => ?_)
          obtain ⟨th, hS, ha⟩ := g8.2.2.2 th0 gd (fun v v0 v1 => by
            have h2 : S.2.2.1 v = ar v := hle.2.1 v v0 v1
            rw [h2]
            exact sc v v0 v1) q0
          have hq := hQ _ _ ha q0
          obtain ⟨_, hB, hT⟩ := hTI trivial
          obtain ⟨f, _, f2⟩ := hT S th (vx_le_refl S) hS hq
          have hnl : ∀ v B e, S.2.2.2.1 v = some (B, e) → ¬ vx_isl B := fun v B e hb ⟨j, y, G, eB⟩ => by
            obtain ⟨_, g3b⟩ := g3 trivial
            obtain ⟨_, ⟨_, ty⟩, _⟩ := g3b v B e hb
            rw [eB] at ty
            rcases ty with ⟨_, B', q, _⟩ | ⟨q, _⟩ | ⟨q, _⟩ | ⟨q, _⟩
            · cases q
            · exact absurd q (by show ¬ ((0 : Int) = 1); decide)
            · exact absurd q (by show ¬ ((0 : Int) = 2); decide)
            · exact absurd q vx_03
          have := hcap S th hle hS hq hB hnl
          omega
      · refine ⟨1000001 - (y3 + 1), by omega, Or.inr ⟨rfl, z, y3 + 1, rfl, by omega, rfl, ?_⟩⟩
        rcases ht with ⟨q1, q2, q3⟩ | ⟨q1, S, PR, tm', r, zq, q2, q3, q4, q5⟩
        · exact Or.inl ⟨q1, q2, q3⟩
        · exact Or.inr ⟨q1, S, PR, tm', r, zq, q2, q3, q4, q5⟩
