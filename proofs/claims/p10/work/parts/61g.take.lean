/-! ===== a pair is taken, down to two heads ===== -/
theorem c_dv_tp {tv tc : Int → rf_T} {tm : Int → Int → rf_T} {sL : Nat} {sx : Nat → Int32} (hsL : sL ≤ 3072) (d : Nat) (hd : 3 ≤ d) : ∀ (S : vx_S) (p : dv_E) (r : List dv_E) (s : sx_S) (K : Int → sx_S → Prop), cx_I s → dv_ps s S.2.2.2.2 (s.1 29 3) (p :: r) → s.1 39 6 = (r.length : Int) + 1 → vx_2 tv tc tm S p.1.1 p.1.2 p.2.1.1 p.2.1.2 p.2.2.1 → p.2.2.2 + (vx_lh p.1.1 : Int) + (vx_lh p.2.1.1 : Int) ≤ 1024 → p.2.2.1 + (vx_lh p.1.1 : Int) ≤ 100000 → (∀ u A c B d L, cx_I u → cx_F [(29, 32), (38, 39)] s u → u.1 39 6 = (r.length : Int) → dv_lm p.2.2.2 s u → dv_cu u S.2.2.2.2 A c B d L → vx_2 tv tc tm S A c B d L → (¬ vx_isl A ∧ ¬ vx_isl B) → vx_rd S p.1.1 p.1.2 p.2.1.1 p.2.1.2 p.2.2.1 A c B d L → (u.1 29 3 + (vx_lh A : Int) + (vx_lh B : Int) ≤ p.2.2.2 + (vx_lh p.1.1 : Int) + (vx_lh p.2.1.1 : Int) ∧ L + (vx_lh A : Int) ≤ p.2.2.1 + (vx_lh p.1.1 : Int) ∧ p.2.2.1 ≤ L) → K 0 u) → sx_C sL sx d 72 [.inr (.inl 38)] s K := by
  intro S p r s K hI hp h39 h2 hc hl hK
  obtain ⟨⟨m1, m2⟩, ⟨m3, m4⟩, ⟨m5, m6⟩, ⟨m7, m8⟩, m9⟩ := hp
  have en : (s.1 39 6 - 1).toNat = r.length := by omega
  obtain ⟨d, rfl⟩ : ∃ e, d = e + 2 := ⟨d - 2, by omega⟩
  have L0 : 0 ≤ p.2.2.1 := by
    obtain ⟨lt, t, g1, _⟩ := h2 trivial
    exact (g1 trivial).2.2.1.1
  refine sx_methL (wr := true) (n := 400) (n' := 400) (stop := [(78, [0, 1])]) (fun nn pc ls u => pc = 78 ∧ ∃ (x1 : Nat) (A : rf_N) (c : List (Int × Int)) (B : rf_N) (e : List (Int × Int)) (L : Int), ls = [(0, .inr (.inl 38)), (1, .inl (x1 : Int))] ∧ cx_I u ∧ cx_F [(29, 32), (38, 39)] s u ∧ u.1 39 6 = (r.length : Int) ∧ dv_lm p.2.2.2 s u ∧ dv_cu u S.2.2.2.2 A c B e L ∧ vx_2 tv tc tm S A c B e L ∧ vx_rd S p.1.1 p.1.2 p.2.1.1 p.2.1.2 p.2.2.1 A c B e L ∧ (u.1 29 3 + (vx_lh A : Int) + (vx_lh B : Int) ≤ p.2.2.2 + (vx_lh p.1.1 : Int) + (vx_lh p.2.1.1 : Int) ∧ L + (vx_lh A : Int) ≤ p.2.2.1 + (vx_lh p.1.1 : Int) ∧ p.2.2.1 ≤ L) ∧ x1 + vx_lh A ≤ vx_lh p.1.1 ∧ nn = vx_lh A) hsL (e := eX6_takePair) rfl ?_ ?_
  · refine w_dv_tp (c_dv_pop39 hsL (d + 1) (by omega)) (c_dv_pmark39 hsL (d + 1) (by omega)) (c_dv_rel hsL (d + 1) (by omega)) (c_dv_pnode39 hsL (d + 1) (by omega)) (c_dv_pchain39 hsL (d + 1) (by omega)) (c_dv_pother39 hsL (d + 1) (by omega)) (c_dv_potherChain39 hsL (d + 1) (by omega)) (c_dv_plevel39 hsL (d + 1) (by omega)) hI (by omega) (by rw [en, m8]; omega) (fun u u1 u2 u3 u4 u5 => ?_)
    rw [en] at u4 u5
    rw [m8] at u4
    obtain ⟨v1, v2, v3, v4, v5⟩ := u5
    have a : ∀ q, q ≠ 29 → q ≠ 38 → q ≠ 39 → u.1 q = s.1 q ∧ u.2.1 q = s.2.1 q := fun q h1 h2 h3 => (u2 q).1 (by
      show cx_out [(29, 29), (38, 39)] q
      simp [cx_out]
      omega)
    have hnf : dv_nf (s.1 11 6) S.2.2.2.2 S.2.2.2.2 s u := fun _ => ⟨fun _ => ⟨by rw [(a 11 (by decide) (by decide) (by decide)).1]; exact Int.le_refl _, fun j _ => by rw [(a 12 (by decide) (by decide) (by decide)).2, (a 13 (by decide) (by decide) (by decide)).2, (a 14 (by decide) (by decide) (by decide)).2, (a 15 (by decide) (by decide) (by decide)).2, (a 16 (by decide) (by decide) (by decide)).2]; exact ⟨rfl, rfl, rfl, rfl, rfl⟩⟩, fun _ _ => rfl⟩
    have hlk : ∀ j : Nat, (j : Int) < p.2.2.2 → u.2.1 30 j = s.2.1 30 j ∧ u.2.1 31 j = s.2.1 31 j ∧ u.2.1 32 j = s.2.1 32 j := fun j _ => by
      rw [(a 30 (by decide) (by decide) (by decide)).2, (a 31 (by decide) (by decide) (by decide)).2, (a 32 (by decide) (by decide) (by decide)).2]
      exact ⟨rfl, rfl, rfl⟩
    refine ⟨_, rfl, 0, _, _, _, _, _, rfl, u1, cx_F_step u2 rfl (cx_F_refl _ _), by omega, fun _ => ⟨by omega, hlk⟩, fun _ => ⟨⟨?_, ?_⟩, ⟨?_, ?_⟩, ?_⟩, h2, vx_rd_refl, ⟨by omega, by omega, by omega⟩, by omega, rfl⟩
    · rw [v1]
      exact dv_at_fr (Int.le_refl _) hnf m3
    · rw [v2, u4]
      exact dv_ch_fr hlk m4
    · rw [v3]
      exact dv_at_fr (Int.le_refl _) hnf m5
    · rw [v4, u4]
      exact dv_ch_fr hlk m6
    · rw [v5]
      exact m7
  · rintro nn pc ls u ⟨rfl, x1, A, c, B, e, L, rfl, i1, i2, i3, i4, i5, i6, i7, ⟨i8, i9, i10⟩, i11, rfl⟩
    obtain ⟨⟨c1, c2⟩, ⟨c3, c4⟩, c5⟩ := i5 trivial
    have z1 := dv_at_z c1
    have z2 := dv_at_z c3
    have h29 := i1.fld 29 3 (by decide) rfl
    have hlam := vx_2_lam i6
    have hA : vx_sg A := by
      obtain ⟨lt, t, g1, _⟩ := i6 trivial
      exact (g1 trivial).1.2.1
    have hB : vx_sg B := by
      obtain ⟨lt, t, _, g1⟩ := i6 trivial
      exact (g1 trivial).1.2.1
    by_cases hq : vx_isl A
    · obtain ⟨j', y, G, rfl⟩ := hlam.mp hq
      obtain ⟨j, x, F, rfl⟩ := hq
      obtain ⟨⟨k1, k2, k3⟩, k4⟩ := dv_at_lam c1
      obtain ⟨⟨l1, l2, l3⟩, l4⟩ := dv_at_lam c3
      have hF : vx_sg F := by
        obtain ⟨a, b, cc, dd, ee, _⟩ := k4
        exact ⟨a, b, cc, dd, ee⟩
      have hG : vx_sg G := by
        obtain ⟨a, b, cc, dd, ee, _⟩ := l4
        exact ⟨a, b, cc, dd, ee⟩
      have lf := (vx_lh_lam (j := j) (x := x) (F := F)).1
      have lg := (vx_lh_lam (j := j') (x := y) (F := G)).1
      rw [lf] at i8 i9 i11
      rw [lg] at i8
      refine w_dv_tp78y (c_dz_kind hsL (d + 1) (by omega)) (c_dz_head hsL (d + 1) (by omega)) (c_dz_body hsL (d + 1) (by omega)) (c_dv_with hsL (d + 1) (by omega)) i1 z1 z2 (by omega) k1 l1 (by omega) (by omega) (fun t1 t2 a1 a2 a3 b1 b2 b3 b4 => ?_)
      have e38 : t1.1 38 = u.1 38 := (a2.same 38 rfl).1
      have w1 := (a3 trivial).1
      have w2 : t2.1 29 3 = t1.1 29 3 + 1 := (b3 trivial).1
      have lf1 := dv_w1_lf a3
      have lf2 : dv_lf t1 t2 := fun _ => (dv_w1_lf b3) trivial
      have lf3 := dv_lf_t lf1 lf2
      have cA : dv_c t1 ((x, L) :: c) (t1.1 29 3) (u.1 29 3) := by
        rw [k2, c5] at a3
        exact dv_w1_c h29.1 a3 (Int.le_refl _) c2
      have cA2 : dv_c t2 ((x, L) :: c) (t2.1 29 3) (u.1 29 3) := dv_ch_hi (by omega) (dv_c_lf lf2 (Int.le_refl _) cA)
      have cB1 : dv_c t1 e (u.1 29 3) (u.1 38 11) := dv_c_lf lf1 (Int.le_refl _) c4
      have cB : dv_c t2 ((y, L) :: e) (t2.1 29 3) (t1.1 29 3) := by
        rw [l2, e38, c5] at b3
        exact dv_w1_c (s := (sx_uf t1.1 38 9 (u.1 29 3), t1.2)) (by show 0 ≤ t1.1 29 3; omega) b3 (hi := t1.1 29 3) (Int.le_refl _) (dv_ch_hi (by omega) cB1)
      have g11 : t2.1 11 = u.1 11 := by rw [(b2.same 11 rfl).1]; exact (a2.same 11 rfl).1
      have gar : ∀ q, q = 12 ∨ q = 13 ∨ q = 14 ∨ q = 15 ∨ q = 16 → t2.2.1 q = u.2.1 q := fun q hq => by
        rcases hq with rfl | rfl | rfl | rfl | rfl
        · rw [(b2.same 12 rfl).2]; exact (a2.same 12 rfl).2
        · rw [(b2.same 13 rfl).2]; exact (a2.same 13 rfl).2
        · rw [(b2.same 14 rfl).2]; exact (a2.same 14 rfl).2
        · rw [(b2.same 15 rfl).2]; exact (a2.same 15 rfl).2
        · rw [(b2.same 16 rfl).2]; exact (a2.same 16 rfl).2
      have hnf : dv_nf (u.1 11 6) S.2.2.2.2 S.2.2.2.2 u (sx_uf (sx_uf (sx_uf (sx_uf t2.1 38 11 (t1.1 29 3)) 38 8 (u.2.1 14 (u.1 38 8).toNat)) 38 10 (u.2.1 14 (u.1 38 10).toNat)) 38 12 (u.1 38 12 + 1), t2.2) := fun _ => ⟨fun _ => ⟨by show u.1 11 6 ≤ t2.1 11 6; rw [g11]; exact Int.le_refl _, fun j _ => by
        show t2.2.1 12 j = _ ∧ t2.2.1 13 j = _ ∧ t2.2.1 14 j = _ ∧ t2.2.1 15 j = _ ∧ t2.2.1 16 j = _
        rw [gar 12 (by decide), gar 13 (by decide), gar 14 (by decide), gar 15 (by decide), gar 16 (by decide)]
        exact ⟨rfl, rfl, rfl, rfl, rfl⟩⟩, fun _ _ => rfl⟩
      refine ⟨vx_lh F, by rw [lf]; omega, rfl, x1 + 1, F, (x, L) :: c, G, (y, L) :: e, L + 1, rfl, b4, ?_, ?_, fun _ => ⟨?_, fun q hq => ?_⟩, fun _ => ⟨⟨?_, ?_⟩, ⟨?_, ?_⟩, ?_⟩, vx_2_dn hF hG i6, vx_rd_t i7 vx_rd_dn, ⟨?_, by omega, by omega⟩, by omega, rfl⟩
      · exact cx_F_uf rfl (cx_F_uf rfl (cx_F_uf rfl (cx_F_uf rfl (cx_F_step b2 rfl (cx_F_uf rfl (cx_F_step a2 rfl i2))))))
      · show t2.1 39 6 = _
        rw [(b2.same 39 rfl).1]
        show t1.1 39 6 = _
        rw [(a2.same 39 rfl).1]
        exact i3
      · show p.2.2.2 ≤ t2.1 29 3
        have := (i4 trivial).1
        omega
      · have q1 := (i4 trivial).2 q hq
        have q2 := (lf3 trivial).2 q (by have := (i4 trivial).1; omega)
        exact ⟨q2.1.trans q1.1, q2.2.1.trans q1.2.1, q2.2.2.trans q1.2.2⟩
      · exact dv_at_fr (Int.le_refl _) hnf k4
      · show dv_c t2 ((x, L) :: c) (t2.1 29 3) (t2.1 38 9)
        rw [(b2.same 38 rfl).1]
        exact cA2
      · exact dv_at_fr (Int.le_refl _) hnf l4
      · exact cB
      · show u.1 38 12 + 1 = L + 1
        omega
      · show t2.1 29 3 + _ + _ ≤ _
        omega
    · have hq' : ¬ vx_isl B := fun h => hq (hlam.mpr h)
      obtain ⟨j, k, h, F, rfl⟩ := hA
      have hh := dv_at_hd c1
      refine w_dv_tp78n (c_dz_kind hsL (d + 1) (by omega)) i1 z1 z2 (by omega) (Or.inl ?_) (hK u _ c B e L i1 i2 i3 i4 i5 i6 ⟨hq, hq'⟩ i7 ⟨i8, i9, i10⟩)
      rw [hh.2.2.1]
      intro hk
      exact hq ⟨j, h, F, by rw [hk]⟩
