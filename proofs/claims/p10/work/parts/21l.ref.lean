theorem c_r_actual {sL : Nat} {sx : Nat → Int32} (hsL : sL ≤ 3072) (D d : Nat) (hd : D + 4 ≤ d) : ∀ (y : rf_Y) (a0 a1 ar : Int) (s : sx_S) (K : Int → sx_S → Prop), cx_I s → (0 ≤ a0 ∧ a0 ≤ 59999) → (0 ≤ s.2.1 101 a0.toNat ∧ s.2.1 101 a0.toNat ≤ 2999) → ar = s.2.1 108 (s.2.1 101 a0.toNat).toNat → s.1 66 56 ≤ 119980 → (∀ k : Nat, (k : Int) < ar → s.2.1 104 a0.toNat + (k : Int) < s.1 66 56) → rf_dp y ≤ D → rf_bs s y a1 → (∀ (z : Int) (t : sx_S), cx_I t → cx_F [(66, 66), (105, 105)] s t → rf_f [56] s t → z = s.1 66 56 → t.1 66 56 = s.1 66 56 + ar → rf_ag 105 105 (s.1 66 56) s t → (∀ k : Nat, (k : Int) < ar → t.2.1 105 (z + (k : Int)).toNat = rf_vo s y a0 k) → K z t) → sx_C sL sx d 192 [.inr (.inl 66), .inl a0, .inl a1] s K := by
  intro y a0 a1 ar s K hI p0 hm har hv hrow hy by1 hK
  obtain ⟨d, rfl⟩ : ∃ e, d = e + 2 := ⟨d - 2, by omega⟩
  have h108 := hI.arr 108 (by decide) rfl (s.2.1 101 a0.toNat).toNat
  rw [← har] at h108
  have h56 := hI.fld 66 56 (by decide) rfl
  have h104 := hI.arr 104 (by decide) rfl a0.toNat
  refine sx_methL (wr := true) (n := 400) (n' := 400) (stop := [(8, [0, 1, 2, 3, 4])]) (fun n pc ls u => (pc = 8 ∧ ∃ (x3 x4 : Int), ls = [(0, .inr (.inl 66)), (1, .inl a0), (2, .inl a1), (3, .inl x3), (4, .inl x4)] ∧ x3 = s.1 66 56 ∧ cx_I u ∧ cx_F [(66, 66), (105, 105)] s u ∧ u.1 = s.1 ∧ u.2.2 = s.2.2 ∧ rf_ag 105 105 (s.1 66 56) s u ∧ (0 ≤ x4 ∧ x4 ≤ ar) ∧ (∀ k : Nat, (k : Int) < x4 → u.2.1 105 (s.1 66 56 + (k : Int)).toNat = rf_vo s y a0 k) ∧ n = (4 - x4).toNat)) hsL (e := eX12_actual) rfl ?_ ?_
  · refine w_act hI (fun x3 h3 => ⟨_, rfl, x3, 0, rfl, h3, hI, cx_F_refl _ _, rfl, rfl, rf_ag_refl _ _ _ _, by omega, fun k hk => by omega, rfl⟩)
  · rintro n pc ls u ⟨rfl, x3, x4, rfl, h3, j1, j2, j3, j3', j4, j5, j6, rfl⟩
    have e101 := (j2.same 101 rfl).2
    have e104 := (j2.same 104 rfl).2
    have e108 := (j2.same 108 rfl).2
    have e115 := (j2.same 115 rfl).2
    have e116 := (j2.same 116 rfl).2
    have e117 := (j2.same 117 rfl).2
    have hyu : rf_bs u y a1 := by
      unfold rf_bs
      rw [e115, e116, e117, j3]
      exact by1
    have hvo : ∀ k : Nat, (k : Int) < ar → rf_vo u y a0 k = rf_vo s y a0 k := fun k hk => by
      unfold rf_vo
      rw [e104, j4 105 _ (by omega) (by omega) (by have := hrow k hk; omega)]
    have haru : ar = u.2.1 108 (u.2.1 101 a0.toNat).toNat := by
      rw [e108, e101]
      exact har
    refine w_act_8 (w := rf_vo s y a0 x4.toNat) j1 p0 haru (by rw [e101]; exact hm) (by omega) (by omega) (rf_look_in hI by1 (hI.arr 105 (by decide) rfl _)) ?_ ?_ ?_
    · intro hx K' hK'
      have h4 := hrow x4.toNat (by omega)
      refine c_r_varOf hsL D (d + 1) (by omega) y a0 a1 x4 u K' j1 p0 (by omega) (by rw [e104]; omega) hy hyu ?_
      rw [hvo x4.toNat (by omega)]
      exact hK'
    · intro hx v hv'
      have ex : x4 = ar := by omega
      refine hK x3 _ (cx_I_uf rfl rfl (F := u.1) (B := u.2) j1 (by omega) (by omega)) (cx_F_uf rfl (F := u.1) (B := u.2) j2) (rf_f_uf rfl (F := u.1) (B := u.2) (fun k _ => by rw [show ((u.1, u.2) : sx_S).1 = s.1 from j3])) h3 ?_ j4 ?_
      · show sx_uf u.1 66 56 v 66 56 = _
        rw [sx_uf_if, if_pos ⟨rfl, rfl⟩]
        omega
      · intro k hk
        rw [h3]
        exact j6 k (by omega)
    · intro hx n' y4 hn' hy4
      have hw := rf_look_in hI by1 (hI.arr 105 (by decide) rfl (s.2.1 104 a0.toNat + ((x4.toNat : Nat) : Int)).toNat)
      subst hy4
      refine ⟨_, by omega, rfl, x3, x4 + 1, rfl, h3, cx_I_ua rfl rfl (F := u.1) (A := u.2.1) (B := u.2.2) j1 hw.1 hw.2, cx_F_ua rfl (F := u.1) (A := u.2.1) (B := u.2.2) j2, j3, j3', ?_, by omega, ?_, rfl⟩
      · exact rf_ag_ua (F := u.1) (A := u.2.1) (B := u.2.2) (by omega) (by omega) j4
      · intro k hk
        show sx_ua u.2.1 105 n'.toNat _ 105 _ = _
        rw [sx_ua_same]
        dsimp only
        by_cases e : (k : Int) = x4
        · rw [if_pos (by omega)]
          congr 1
          omega
        · rw [if_neg (by omega)]
          exact j6 k (by omega)
