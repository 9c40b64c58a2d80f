section
/-! ===== the reference: build ===== -/
set_option maxRecDepth 8000 in
theorem vq_bd_ok {sL : Nat} {sx : Nat → Int32} (hsL : sL ≤ 3072) {Z d : Nat} (hZ : Z ≤ 1000) (hd : 9 * Z + 20 ≤ d) (ih : ∀ (m : rf_N) (x : rf_T) (Γ : List Int) (r : Int) (s : sx_S) (K : Int → sx_S → Prop), cx_I s → rf_ym s m r → (rf_ht m).1 ≤ Z → (rf_gt (rf_RH s) (rf_RP s) m).1 x → (rf_gd m).1 → (rf_sc rf_G1 m).1 Γ → (2 ≤ s.1 66 9 ∧ s.1 66 9 ≤ 6000) → rf_RB s (rf_s1 m) → (∀ (z : Int) (t : sx_S), cx_I t → rf_FB s t → rf_CB s t (rf_s1 m) → rf_made (s.1 66 50) x t z (vq_PB m Γ (s.1 66 58) t) → K z t) → sx_C sL sx (d + 1) 182 [.inr (.inl 66), .inl r] s K) : ∀ (m : rf_N) (x : rf_T) (Γ : List Int) (r : Int) (s : sx_S) (K : Int → sx_S → Prop), cx_I s → rf_ym s m r → (rf_ht m).1 ≤ (Z + 1) → (rf_gt (rf_RH s) (rf_RP s) m).1 x → (rf_gd m).1 → (rf_sc rf_G1 m).1 Γ → (2 ≤ s.1 66 9 ∧ s.1 66 9 ≤ 6000) → rf_RB s (rf_s1 m) → (∀ (z : Int) (t : sx_S), cx_I t → rf_FB s t → rf_CB s t (rf_s1 m) → rf_made (s.1 66 50) x t z (vq_PB m Γ (s.1 66 58) t) → K z t) → sx_C sL sx (d + 2) 182 [.inr (.inl 66), .inl r] s K := by
  intro m x Γ r s K hI hm hh hx hg hsc h9 hRB hK
  cases m with
  | leaf => exact hx.elim
  | inner j k uu f y =>
  have r12 := hI.fld 66 12 (by decide) rfl
  have r50 := hI.fld 66 50 (by decide) rfl
  have r56 := hI.fld 66 56 (by decide) rfl
  have r58 := hI.fld 66 58 (by decide) rfl
  obtain ⟨⟨m0, m1⟩, ⟨m2, m3⟩, m4, m5⟩ := hm
  have ej : r.toNat = j := by omega
  have hs1 : rf_s1 (.inner j k uu f y) = 1 + (rf_idx f).length := rfl
  rw [hs1] at hRB
  obtain ⟨b1, b2, b3, b4⟩ := hRB
  have hvs : ∃ vs, k.1 = 3 → ((rf_lf2 f).2 vs ∧ vs.Nodup) := by
    rcases hg with ⟨q, _⟩ | ⟨_, _, q⟩
    · exact ⟨[], fun z => by omega⟩
    · by_cases h3 : k.1 = 3
      · obtain ⟨vs, q1, q2⟩ := q h3
        exact ⟨vs, fun _ => ⟨q1, q2⟩⟩
      · exact ⟨[], fun z => absurd z h3⟩
  obtain ⟨vs, hvs⟩ := hvs
  have hU : ∃ U, k.1 ≠ 0 → (rf_RH s j k.1 k.2 U ∧ (rf_gt (rf_RH s) (rf_RP s) f).2 U x ∧ rf_RP s j x) := by
    rcases hx with ⟨q, _⟩ | ⟨_, U, q1, q2, q3⟩
    · exact ⟨.leaf, fun z => absurd q z⟩
    · exact ⟨U, fun _ => ⟨q1, q2, q3⟩⟩
  obtain ⟨U, hU⟩ := hU
  refine sx_methL (wr := true) (n := 400) (n' := 400) (stop := [(64, [0, 1, 2, 3, 4]), (98, [0, 1, 2, 3]), (140, [0, 1, 2, 3, 4, 5]), (186, [0, 1, 4, 5]), (216, [0, 1, 4])]) (fun n pc ls u => (pc = 64 ∧ ∃ (o : Nat) (x3 x4 : Int) (g : rf_N) (vd rest : List Int) (w : rf_T), ls = [(0, .inr (.inl 66)), (1, .inl r), (2, .inr (.inr o)), (3, .inl x3), (4, .inl x4)] ∧ ((cx_I u ∧ rf_FB s u) ∧ o = s.2.2.2 ∧ o < u.2.2.2) ∧ (k.1 ≠ 0 ∧ k.1 = s.2.1 83 r.toNat) ∧ k.1 = 3 ∧ rf_ym u g x4 ∧ vs = vd ++ rest ∧ x3 = (vd.length : Int) ∧ ((rf_lf2 g).2 rest ∧ (rf_gt (rf_RH s) (rf_RP s) g).2 w x ∧ (rf_sc rf_G1 g).2 Γ ∧ (rf_gd g).2 ∧ (rf_ht g).2 ≤ Z) ∧ (rf_vw u vd U w ∧ rf_ol u o vd.length = vd) ∧ rf_CC s u (rf_idx f).length (rf_idx g).length 0 ∧ n = rf_len f + rf_len g + 200) ∨ (pc = 98 ∧ ∃ (o : Nat) (x3 : Int), ls = [(0, .inr (.inl 66)), (1, .inl r), (2, .inr (.inr o)), (3, .inl x3)] ∧ ((cx_I u ∧ rf_FB s u) ∧ o = s.2.2.2 ∧ o < u.2.2.2) ∧ (k.1 ≠ 0 ∧ k.1 = s.2.1 83 r.toNat) ∧ (k.1 ≠ 3 → rf_CC s u 0 0 0) ∧ (k.1 = 3 → rf_CC s u (rf_idx f).length 0 0 ∧ x3 = (vs.length : Int) ∧ rf_ol u o vs.length = vs ∧ rf_vw u vs U x) ∧ n = rf_len f + 100) ∨ (pc = 140 ∧ ∃ (o : Nat) (x3 x4 x5 : Int), ls = [(0, .inr (.inl 66)), (1, .inl r), (2, .inr (.inr o)), (3, .inl x3), (4, .inl x4), (5, .inl x5)] ∧ ((cx_I u ∧ rf_FB s u) ∧ o < u.2.2.2) ∧ k.1 = 3 ∧ (s.1 66 50 ≤ x4 ∧ x4 + 1 = u.1 66 50) ∧ rf_mk u x4 3 k.2 ∧ (0 ≤ u.2.1 104 x4.toNat ∧ u.2.1 104 x4.toNat + x5 = u.1 66 56) ∧ (rf_rl u (u.2.1 104 x4.toNat) x5.toNat = rf_ol u o x5.toNat ∧ x3 = (vs.length : Int) ∧ rf_ol u o vs.length = vs ∧ rf_vw u vs U x) ∧ (0 ≤ x5 ∧ x5 ≤ x3) ∧ (u.1 66 50 ≤ s.1 66 50 + 10 * ((rf_idx f).length : Int) + 1 ∧ u.1 66 58 ≤ s.1 66 58 + 5 * ((rf_idx f).length : Int) ∧ u.1 66 56 ≤ s.1 66 56 + 5 * ((rf_idx f).length : Int) + x5 ∧ u.2.2.2 ≤ s.2.2.2 + (rf_idx f).length + 1) ∧ n = (8 - x5).toNat + 20) ∨ (pc = 186 ∧ ∃ (x4 x5 : Int) (g fz : rf_N) (w : rf_T), ls = [(0, .inr (.inl 66)), (1, .inl r), (4, .inl x4), (5, .inl x5)] ∧ (cx_I u ∧ rf_FB s u) ∧ k.1 ≠ 0 ∧ k.1 ≠ 3 ∧ s.1 66 50 ≤ x4 ∧ (rf_no u (.inner x4.toNat k () fz .leaf) x4 ∧ (rf_idx (.inner x4.toNat k () fz .leaf)).Nodup ∧ ∀ j ∈ rf_idx (.inner x4.toNat k () fz .leaf), x4 ≤ (j : Int)) ∧ rf_ym u g x5 ∧ ((rf_gt (rf_H u) rf_P fz).2 U w ∧ (rf_gt (rf_RH s) (rf_RP s) g).2 w x) ∧ ((∀ us, (rf_lf2 f).2 us ↔ ∃ a b, us = a ++ b ∧ (rf_lf2 fz).2 a ∧ (rf_lf2 g).2 b) ∧ ∃ fd, f = rf_snoc fd g ∧ (vq_bm (rf_RP u) (vq_RW u) (s.1 66 58) fd).2 fz) ∧ ((rf_sc (rf_G u) fz).2 Γ ∧ (rf_sc rf_G1 g).2 Γ ∧ (rf_gd g).2) ∧ ((rf_wh fz).2 ≤ 9 * (rf_ht f).2 ∧ (rf_ht g).2 ≤ (rf_ht f).2) ∧ rf_CC s u (rf_idx f).length (rf_idx g).length 1 ∧ n = rf_len g + 1) ∨ (pc = 216 ∧ ∃ (x4 : Int) (fz : rf_N), ls = [(0, .inr (.inl 66)), (1, .inl r), (4, .inl x4)] ∧ (cx_I u ∧ rf_FB s u) ∧ k.1 ≠ 0 ∧ s.1 66 50 ≤ x4 ∧ (rf_no u (.inner x4.toNat k () fz .leaf) x4 ∧ (rf_idx (.inner x4.toNat k () fz .leaf)).Nodup ∧ ∀ j ∈ rf_idx (.inner x4.toNat k () fz .leaf), x4 ≤ (j : Int)) ∧ (((k.1 = 1 ∨ k.1 = 2) ∧ ∃ w, rf_H u x4.toNat k.1 k.2 w ∧ (rf_gt (rf_H u) rf_P fz).2 w x) ∨ (k.1 = 3 ∧ fz = .leaf ∧ rf_mp u x4.toNat k.2 x (u.1 66 56))) ∧ ((k.1 ≠ 3 → ∀ us, (rf_lf2 f).2 us ↔ (rf_lf2 fz).2 us) ∧ (k.1 ≠ 3 → (vq_bm (rf_RP u) (vq_RW u) (s.1 66 58) f).2 fz)) ∧ (rf_sc (rf_G u) fz).2 Γ ∧ (k.1 = 3 → rf_rv u x4 = vs ∧ rf_vw u vs U x) ∧ (rf_wh fz).2 ≤ 9 * (rf_ht f).2 ∧ (u.1 66 50 ≤ s.1 66 50 + 10 * ((rf_idx f).length : Int) + 1 ∧ u.1 66 58 ≤ s.1 66 58 + 5 * ((rf_idx f).length : Int) ∧ u.1 66 56 + (rf_at x : Int) ≤ s.1 66 56 + 5 * ((rf_idx f).length : Int) + 5 ∧ u.2.2.2 ≤ s.2.2.2 + (rf_idx f).length + 1) ∧ n = 0)) hsL (e := eX12_build) rfl ?_ ?_
  · have hrk : s.2.1 74 r.toNat ≠ 0 → k.1 ≠ 0 ∧ k.1 = s.2.1 83 r.toNat := fun q => by
      rw [ej] at q ⊢
      unfold rf_rk at m2
      rw [if_neg q] at m2
      split at m2
      · exfalso
        have := (hU (by omega)).1.2
        omega
      · exact ⟨by omega, m2.symm⟩
    refine w_build (c_r_make hsL (d + 1) (by omega)) (PB := fun z1 t1 z t => (k.1 = 0 ∧ cx_I t1 ∧ cx_F [(66, 66), (100, 103)] s t1 ∧ z1 = s.1 66 50 ∧ t1.1 66 50 = s.1 66 50 + 1 ∧ rf_f [50] s t1 ∧ rf_ag 100 103 (s.1 66 50) s t1 ∧ rf_mk t1 z1 0 k.2) ∧ ∃ A B, x = rf_a A B ∧ rf_vt s k.2 A ∧ cx_I t ∧ rf_FB t1 t ∧ rf_CB t1 t (rf_s1 f) ∧ rf_made (t1.1 66 50) B t z (vq_PB f (k.2 :: Γ) (t1.1 66 58) t)) hI (by omega) (by omega) (by omega) id ?_ ?_ ?_ ?_ ?_
    · intro h74 z1 v1 t1 hv1 p1 p2 p3 p4 p5 p6 p7 u hu K' hK'
      rw [ej] at h74 hv1 hu
      rw [m3] at hv1
      have k0 : k.1 = 0 := by
        unfold rf_rk at m2
        rw [if_pos h74] at m2
        exact m2.symm
      have hFB : rf_FB s t1 := rf_FB_F p2 rfl p5 rfl (rf_xu_make p2 p5 p4) p6 (Int.le_refl _)
      rcases hx with ⟨_, A, B, q1, q2, q3⟩ | ⟨q, _⟩
      · have qvt : rf_vt s k.2 A := by
          rcases q2.2 with z | z | z | z
          · exact z.2
          · omega
          · omega
          · omega
        have hgf : (rf_gd f).1 := by
          rcases hg with ⟨_, z⟩ | ⟨z, _⟩
          · exact z
          · exact absurd k0 z
        have hsf : (rf_sc rf_G1 f).1 (k.2 :: Γ) := by
          rcases hsc with ⟨_, z⟩ | ⟨z, _⟩
          · exact z
          · exact absurd k0 z
        have hle := rf_s1_le (f := f)
        have hhf := rf_ht_0 (j := j) (u := uu) (f := f) (x := y) k0
        have e9 := p5 9 rfl
        have e56 := p5 56 rfl
        have e58 := p5 58 rfl
        have eo : t1.2.2.2 = s.2.2.2 := by rw [(p2 0).2]
        refine ih f B (k.2 :: Γ) u t1 K' p1 ?_ (by omega) ((rf_Rt_up hFB.2.2.1 (fun q _ => by rw [(hFB.same 84 rfl).2])).1 _ q3) hgf hsf (by omega) ⟨by omega, by omega, by omega, by omega⟩ (fun z t c1 c2 c3 c4 => hK' z t ⟨⟨k0, p1, p2, p3, p4, p5, p6, by rw [← hv1]; exact p7⟩, A, B, q1, qvt, c1, c2, c3, c4⟩)
        rw [hu]
        have := rf_ym_up hFB (n := f) (i := s.2.1 80 j) m4
        rw [(hFB.same 80 rfl).2]
        exact this
      · exact absurd k0 q
    · rintro z1 t1 z t ⟨⟨_, _, _, e, _⟩, _⟩
      omega
    · rintro z1 t1 z t ⟨⟨k0, p1, p2, p3, p4, p5, p6, p7⟩, A, B, q1, qvt, c1, c2, c3, ⟨N, n1, n2, n3, n4, n5, ⟨⟨n6, n7⟩, n8⟩, n9⟩⟩
      have hFB : rf_FB s t1 := rf_FB_F p2 rfl p5 rfl (rf_xu_make p2 p5 p4) p6 (Int.le_refl _)
      have hF2 := rf_FB_trans c2 hFB
      obtain ⟨g1, g2, g3, g4⟩ := p7 trivial
      have hle := rf_s1_le (f := f)
      obtain ⟨d1, d2, d3, d4⟩ := c3
      have e56 := p5 56 rfl
      have e58 := p5 58 rfl
      have eo : t1.2.2.2 = s.2.2.2 := by rw [(p2 0).2]
      have ag := c2.2.2.2.1
      have hn50 := (c2.2.2.1.2 0).1.2.2.1
      have hz := rf_nd_rng n1
      have rt50 := c1.fld 66 50 (by decide) rfl
      have hxx : rf_xu t (t.1, sx_ua t.2.1 102 z1.toNat z, t.2.2) := rf_xu_102
      have hNno : rf_no (t.1, sx_ua t.2.1 102 z1.toNat z, t.2.2) N z := by
        refine rf_nd_mono (Int.le_refl _) (fun q hq => ⟨by dsimp only; rw [sx_ua_ne (by decide)], by dsimp only; rw [sx_ua_ne (by decide)], ?_, by dsimp only; rw [sx_ua_ne (by decide)]⟩) n1
        dsimp only
        rw [sx_ua_same]
        dsimp only
        have := n3 q hq
        rw [if_neg (by omega)]
      refine hK z1 _ (cx_I_ua rfl rfl (F := t.1) (A := t.2.1) (B := t.2.2) c1 (by omega) (by omega)) (rf_FB_102 (Or.inl rfl) hF2 (by omega) (by omega)) ⟨by dsimp only; rw [hs1]; push_cast; omega, by dsimp only; rw [hs1]; push_cast; omega, by dsimp only; rw [hs1]; push_cast; omega, by dsimp only; rw [hs1]; omega⟩ ⟨.inner z1.toNat (0, k.2) () N .leaf, ⟨⟨by omega, by dsimp only; omega⟩, ⟨?_, ?_⟩, ?_, ?_⟩, ?_, ?_, rfl, Or.inl ⟨rfl, A, B, q1, Or.inl ⟨rfl, rf_vt_up (rf_xu_trans hxx hF2.2.2.1) qvt⟩, (rf_gt_up hxx n1).1 _ n5⟩, ⟨⟨fun us v => ?_, Or.inl ⟨rfl, (rf_sc_up hxx n1).1 _ n7⟩⟩, ?_⟩, Or.inl ⟨k0, z1.toNat, N, rfl, (vq_bm_xu (s := t) (t := (t.1, sx_ua t.2.1 102 z1.toNat z, t.2.2)) hxx (show sx_ua t.2.1 102 z1.toNat z 84 = t.2.1 84 from sx_ua_ne (by decide)) (by omega)).1 N n9⟩⟩
      · dsimp only
        rw [sx_ua_ne (by decide), ag 100 _ (by omega) (by omega) (by omega)]
        exact g1
      · dsimp only
        rw [sx_ua_ne (by decide), ag 101 _ (by omega) (by omega) (by omega)]
        exact g2
      · have e : (sx_ua t.2.1 102 z1.toNat z) 102 z1.toNat = z := by
          rw [sx_ua_same]
          exact if_pos rfl
        show rf_nd _ _ _ _ _ N ((sx_ua t.2.1 102 z1.toNat z) 102 z1.toNat)
        rw [e]
        exact hNno
      · show (sx_ua t.2.1 102 z1.toNat z) 103 z1.toNat = -1
        rw [sx_ua_ne (by decide), ag 103 _ (by omega) (by omega) (by omega)]
        exact g4
      · show (z1.toNat :: (rf_idx N ++ [])).Nodup
        rw [List.append_nil]
        exact List.nodup_cons.mpr ⟨fun q => by have := n3 _ q; omega, n2⟩
      · intro q hq
        have hq' : q ∈ z1.toNat :: (rf_idx N ++ []) := hq
        rw [List.append_nil] at hq'
        rcases List.mem_cons.mp hq' with rfl | hq'
        · omega
        · have := n3 q hq'
          omega
      · constructor
        · rintro (⟨_, q⟩ | ⟨q, _⟩)
          · exact Or.inl ⟨k0, (n6 _ _).mp q⟩
          · exact absurd (show (0 : Int) = 2 from q) (by decide)
        · rintro (⟨_, q⟩ | ⟨q, _⟩)
          · exact Or.inl ⟨rfl, (n6 _ _).mpr q⟩
          · omega
      · rw [rf_wh_0 rfl, rf_ht_0 k0]
        omega
    · intro h74 h83 o ho
      obtain ⟨k1, k2⟩ := hrk h74
      refine ⟨_, Or.inr (Or.inl ⟨rfl, o, 0, rfl, ⟨⟨cx_I_own hI, ?_⟩, ho, by dsimp only; omega⟩, ⟨k1, k2⟩, fun _ => ⟨by dsimp only; omega, by dsimp only; omega, by dsimp only; omega, by dsimp only; omega⟩, fun z => by omega, rfl⟩)⟩
      obtain ⟨f1, f2, f3, f4, f5, f6⟩ := rf_FB_refl s
      refine ⟨f1, f2, f3, f4, fun o' h' => ?_, Nat.le_succ _⟩
      funext q
      show cond (Nat.beq o' s.2.2.2) 0 (s.2.2.1 o' q) = _
      rw [show Nat.beq o' s.2.2.2 = false from by rw [← Bool.not_eq_true]; exact fun z => by have := Nat.eq_of_beq_eq_true z; omega]
      rfl
    · intro h74 h83 o u ho hu
      obtain ⟨k1, k2⟩ := hrk h74
      have k3 : k.1 = 3 := by omega
      obtain ⟨v1, v2⟩ := hvs k3
      obtain ⟨u1, u2, u3⟩ := hU k1
      have hff : (rf_gd f).2 := by
        rcases hg with ⟨z, _⟩ | ⟨_, z, _⟩
        · omega
        · exact z
      have hsf : (rf_sc rf_G1 f).2 Γ := by
        rcases hsc with ⟨z, _⟩ | ⟨_, _, _, z⟩
        · omega
        · exact z
      have hhf := rf_ht_n (j := j) (u := uu) (f := f) (x := y) k1
      have hFB0 : rf_FB s (s.1, s.2.1, (fun o j => cond (Nat.beq o s.2.2.2) 0 (s.2.2.1 o j)), s.2.2.2 + 1) := by
        obtain ⟨f1, f2, f3, f4, f5, f6⟩ := rf_FB_refl s
        refine ⟨f1, f2, f3, f4, fun o' h' => ?_, Nat.le_succ _⟩
        funext q
        show cond (Nat.beq o' s.2.2.2) 0 (s.2.2.1 o' q) = _
        rw [show Nat.beq o' s.2.2.2 = false from by rw [← Bool.not_eq_true]; exact fun z => by have := Nat.eq_of_beq_eq_true z; omega]
        rfl
      refine ⟨_, Or.inl ⟨rfl, o, 0, u, f, [], vs, U, rfl, ⟨⟨cx_I_own hI, hFB0⟩, ho, by dsimp only; omega⟩, ⟨k1, k2⟩, k3, ?_, rfl, rfl, ⟨v1, u2, hsf, hff, by omega⟩, ⟨rfl, rfl⟩, ⟨by dsimp only; omega, by dsimp only; omega, by dsimp only; omega, by dsimp only; omega⟩, rfl⟩⟩
      rw [hu, ej]
      exact rf_ym_up hFB0 (n := f) (i := s.2.1 80 j) m4
  · have hrs : ∀ {u : sx_S} {g : rf_N} {i : Int}, cx_I u → rf_ym u g i → -1 ≤ i ∧ i ≤ 599 := fun {u} {g} {i} hu hg => by
      have h1 := rf_nd_rng hg
      have h2 := hu.fld 66 12 (by decide) rfl
      omega
    rintro n pc ls u (⟨rfl, o, x3, x4, g, vd, rest, w, rfl, ⟨⟨g1, g2⟩, ho, ho2⟩, kk, k3, hy, evs, e3, ⟨l1, l2, l3, l4, l5⟩, ⟨w1, w2⟩, ⟨c1, c2, c3, c4⟩, rfl⟩ | ⟨rfl, o, x3, rfl, ⟨⟨g1, g2⟩, ho, ho2⟩, kk, hc0, hc3, rfl⟩ | ⟨rfl, o, x3, x4, x5, rfl, ⟨⟨g1, g2⟩, ho2⟩, k3, ⟨h4, h4'⟩, hmk, ⟨f1, f2⟩, ⟨w1, w2, w3, w4⟩, h5, ⟨c1, c2, c3, c4⟩, rfl⟩ | ⟨rfl, x4, x5, g, fz, w, rfl, ⟨g1, g2⟩, k0, k3, h4, ⟨a1, a2, a3⟩, hy, ⟨t1, t2⟩, ⟨hlf, fd, hfd, hbm⟩, ⟨s1, s2, s3⟩, ⟨w1, w2⟩, ⟨c1, c2, c3, c4⟩, rfl⟩ | ⟨rfl, x4, fz, rfl, ⟨g1, g2⟩, k0, h4, ⟨a1, a2, a3⟩, hty, ⟨hlf, hbm⟩, s1, hv3, w1, ⟨c1, c2, c3, c4⟩, rfl⟩)
    · have hr := hrs g1 hy
      have hU5 : rf_at U ≤ 5 := (hU kk.1).1.1
      have hlen := rf_vw_len w1
      have hwp := rf_at_pos w
      have e9 := g2.2.1 9 rfl
      cases g with
      | leaf =>
        have e4 : x4 = -1 := hy
        refine w_build_64 (PB := fun _ _ => False) (PV := fun _ _ _ => False) (by omega) hr (fun _ => ?_) (fun q => absurd e4 q) (fun _ _ q => q.elim) (fun _ _ q => q.elim) (fun _ _ _ q => q.elim)
        have er : rest = [] := l1
        subst er
        rw [List.append_nil] at evs
        have ew : w = x := l2
        have e0 : (rf_idx (.leaf : rf_N)).length = 0 := rfl
        rw [e0] at c1 c2 c3 c4
        refine ⟨_, ?_, Or.inr (Or.inl ⟨rfl, o, x3, rfl, ⟨⟨g1, g2⟩, ho, ho2⟩, kk, fun z => absurd k3 z, fun _ => ⟨⟨c1, c2, c3, c4⟩, ?_, ?_, ?_⟩, rfl⟩)⟩
        · omega
        · rw [evs]
          exact e3
        · rw [evs]
          exact w2
        · rw [evs, ← ew]
          exact w1
      | inner gj gk gu gf gx =>
        obtain ⟨v0, rest2, er, lf0, l1b⟩ := l1
        obtain ⟨A, B, ew, l2a, l2b⟩ := l2
        have hidx := rf_s1_idx (j := gj) (k := gk) (u := gu) (f := gf) (x := gx)
        have hhr := rf_ht_r (j := gj) (k := gk) (u := gu) (f := gf) (x := gx)
        have hA := rf_at_pos A
        have hB := rf_at_pos B
        have eAB : rf_at w = rf_at A + rf_at B := by
          rw [ew]
          rfl
        have hy2 := hy
        obtain ⟨⟨y0, y1⟩, ⟨y2, y3⟩, y4, y5⟩ := hy2
        refine w_build_64 (PB := fun z t => cx_I t ∧ rf_FB u t ∧ rf_CB u t (rf_s1 (.inner gj gk gu gf gx)) ∧ rf_made (u.1 66 50) A t z (vq_PB (.inner gj gk gu gf gx) Γ (u.1 66 58) t)) (PV := fun z t q => q = v0 ∧ rf_vt t v0 A) (by omega) hr (fun q => ?_) (fun _ K' hK' => ?_) ?_ ?_ ?_
        · exfalso
          omega
        · exact ih (.inner gj gk gu gf gx) A Γ x4 u K' g1 hy (by omega) ((rf_Rt_up g2.2.2.1 (fun q _ => by rw [(g2.same 84 rfl).2])).1 _ l2a) l4.1 l3.1 (by omega) ⟨by omega, by omega, by omega, by omega⟩ (fun z t q1 q2 q3 q4 => hK' z t ⟨q1, q2, q3, q4⟩)
        · rintro z t ⟨q1, q2, q3, ⟨N, n1, n2, n3, n4, n5, ⟨⟨n6, n7⟩, n8⟩, _⟩⟩ K' hK'
          have hN : rf_lf N v0 := (n6 [] v0).mpr lf0
          have hv0 := rf_lf_nn hN n5
          refine c_r_varF hsL (9 * Z) (d + 1) (by omega) N A z t K' q1 (by omega) n1 n5 (by omega) (fun q z1 z2 z3 => hK' q ?_)
          have ez := z3 v0 hN
          refine ⟨ez, ?_⟩
          have := (z2 (by omega)).1.1
          rw [ez] at this
          exact this
        · rintro z t ⟨q1, q2, _⟩
          exact ⟨by have := q2.2.2.2.2.2; omega, q1⟩
        · rintro z t q ⟨q1, q2, ⟨d1, d2, d3, d4⟩, _⟩ ⟨eq, hvt⟩ z3 z4 ez3 ez4
          subst eq
          have hob : s.2.2.2 ≤ o := by omega
          have ex3 : x3.toNat = vd.length := by omega
          have hqo := q2.2.2.2.2
          refine ⟨_, ?_, Or.inl ⟨rfl, o, z3, z4, gx, vd ++ [q], rest2, B, rfl, ⟨⟨cx_I_own q1, rf_FB_own (rf_FB_trans q2 g2) hob (fun o' h' => if_neg h')⟩, ho, by dsimp only; omega⟩, kk, k3, ?_, ?_, ?_, ⟨l1b, l2b, l3.2, l4.2, by omega⟩, ⟨rf_vw_up rf_xu_own (rf_vw_snoc (B := B) hvt (rf_vw_up q2.2.2.1 ?_)), ?_⟩, ⟨by dsimp only; omega, by dsimp only; omega, by dsimp only; omega, by dsimp only; omega⟩, rfl⟩⟩
          · have : rf_len (.inner gj gk gu gf gx) = rf_len gx + 1 := rfl
            omega
          · have e81 := (q2.same 81 rfl).2
            rw [ez4, e81, show x4.toNat = gj by omega]
            exact rf_ym_own (rf_ym_up q2 (n := gx) (i := u.2.1 81 gj) y5)
          · rw [evs, er, List.append_assoc]
            rfl
          · rw [List.length_append, List.length_cons, List.length_nil]
            omega
          · rw [← ew]
            exact w1
          · rw [List.length_append, List.length_cons, List.length_nil]
            show rf_ol _ o vd.length ++ [_] = _
            have e1 : rf_ol (t.1, t.2.1, (fun o' => if o' = o then (fun j' => if j' = x3.toNat then q else t.2.2.1 o j') else t.2.2.1 o'), t.2.2.2) o vd.length = rf_ol u o vd.length := rf_ol_eq (fun i hi => by
              dsimp only
              rw [if_pos rfl]
              try dsimp only
              rw [if_neg (by omega), hqo.1 o (by omega)])
            rw [e1, w2]
            dsimp only
            rw [if_pos rfl]
            try dsimp only
            rw [if_pos ex3.symm]
    · have r50u := g1.fld 66 50 (by decide) rfl
      have e83 := (g2.same 83 rfl).2
      have e82 := (g2.same 82 rfl).2
      have e80 := (g2.same 80 rfl).2
      have hn50 := (g2.2.2.1.2 0).1.2.2.1
      have hbd : u.1 66 50 ≤ s.1 66 50 + 10 * ((rf_idx f).length : Int) := by
        by_cases q : k.1 = 3
        · have := (hc3 q).1.1
          omega
        · have := (hc0 q).1
          omega
      refine w_build_98 (c_r_make hsL (d + 1) (by omega)) g1 ⟨by omega, by omega⟩ (by omega) ?_ ?_
      · intro z1 y1 v1 w t1 hy1 hv1 p1 p2 p3 p4 p5 p6 p7 h83 hw
        have hFB1 : rf_FB u t1 := rf_FB_F p2 rfl p5 rfl (rf_xu_make p2 p5 p4) p6 (Int.le_refl _)
        have k3 : k.1 = 3 := by
          rw [(hFB1.same 83 rfl).2, e83] at h83
          omega
        obtain ⟨⟨c1, c2, c3, c4⟩, h3, w3, w4⟩ := hc3 k3
        have hFB2 := rf_FB_104 (v := w) hFB1 (show u.1 66 50 ≤ z1 by omega) (by omega)
        obtain ⟨mk1, mk2, mk3, mk4⟩ := p7 trivial
        have rt56 := p1.fld 66 56 (by decide) rfl
        have e56 := p5 56 rfl
        have e58 := p5 58 rfl
        have eo : t1.2.2 = u.2.2 := (p2 0).2
        have e104 : sx_ua t1.2.1 104 z1.toNat w 104 z1.toNat = w := by
          rw [sx_ua_same]
          exact if_pos rfl
        rw [e83] at hy1
        rw [e82, ej, m3] at hv1
        refine ⟨_, ?_, Or.inr (Or.inr (Or.inl ⟨rfl, o, x3, z1, 0, rfl, ⟨⟨cx_I_ua rfl rfl (F := t1.1) (A := t1.2.1) (B := t1.2.2) p1 (by omega) (by omega), rf_FB_trans hFB2 g2⟩, by dsimp only; rw [eo]; exact ho2⟩, k3, ⟨by omega, by dsimp only; omega⟩, fun _ => ⟨?_, ?_, ?_, ?_⟩, ⟨?_, ?_⟩, ⟨rfl, h3, ?_, rf_vw_up hFB2.2.2.1 w4⟩, by omega, ⟨by dsimp only; omega, by dsimp only; omega, by dsimp only; omega, by dsimp only; rw [eo]; omega⟩, rfl⟩))⟩
        · show (8 - 0 : Int).toNat + 20 < rf_len f + 100
          have : (8 - 0 : Int).toNat = 8 := rfl
          omega
        · dsimp only
          rw [sx_ua_ne (by decide), mk1]
          omega
        · dsimp only
          rw [sx_ua_ne (by decide), mk2]
          exact hv1
        · dsimp only
          rw [sx_ua_ne (by decide)]
          exact mk3
        · dsimp only
          rw [sx_ua_ne (by decide)]
          exact mk4
        · dsimp only
          rw [e104]
          omega
        · dsimp only
          rw [e104]
          omega
        · refine (rf_ol_eq (fun i _ => by dsimp only; rw [eo])).trans w3
      · intro z1 y1 v1 w t1 hy1 hv1 p1 p2 p3 p4 p5 p6 p7 h83 hw
        have hFB1 : rf_FB u t1 := rf_FB_F p2 rfl p5 rfl (rf_xu_make p2 p5 p4) p6 (Int.le_refl _)
        have k3 : k.1 ≠ 3 := by
          rw [(hFB1.same 83 rfl).2, e83] at h83
          omega
        obtain ⟨c1, c2, c3, c4⟩ := hc0 k3
        obtain ⟨mk1, mk2, mk3, mk4⟩ := p7 trivial
        have e56 := p5 56 rfl
        have e58 := p5 58 rfl
        have eo : t1.2.2 = u.2.2 := (p2 0).2
        rw [e83] at hy1
        rw [e82, ej, m3] at hv1
        obtain ⟨u1, u2, u3⟩ := hU kk.1
        have hff : (rf_gd f).2 := by
          rcases hg with ⟨z, _⟩ | ⟨_, z, _⟩
          · exact absurd z kk.1
          · exact z
        have hsf : (rf_sc rf_G1 f).2 Γ := by
          rcases hsc with ⟨z, _⟩ | ⟨_, _, _, z⟩
          · exact absurd z kk.1
          · exact z
        have hFs := rf_FB_trans hFB1 g2
        refine ⟨_, ?_, Or.inr (Or.inr (Or.inr (Or.inl ⟨rfl, z1, w, f, .leaf, U, rfl, ⟨p1, hFs⟩, kk.1, k3, by omega, ⟨⟨⟨by omega, by omega⟩, ⟨by rw [mk1]; omega, by rw [mk2]; exact hv1⟩, mk3, mk4⟩, by simp [rf_idx], fun q hq => by simp [rf_idx] at hq; omega⟩, ?_, ⟨rfl, u2⟩, ⟨fun us => ?_, .leaf, rfl, rfl⟩, ⟨trivial, hsf, hff⟩, ⟨Nat.zero_le _, Nat.le_refl _⟩, ⟨by omega, by omega, by omega, by rw [eo]; omega⟩, rfl⟩)))⟩
        · omega
        · rw [hw, ej, (hFs.same 80 rfl).2]
          exact rf_ym_up hFs (n := f) (i := s.2.1 80 j) m4
        · constructor
          · exact fun q => ⟨[], us, rfl, rfl, q⟩
          · rintro ⟨a, b, q1, q2, q3⟩
            have e : a = [] := q2
            rw [q1, e]
            exact q3
    · have hlen := rf_vw_len w4
      have hxp := rf_at_pos x
      obtain ⟨u1, u2, u3⟩ := hU (by omega)
      have hU5 : rf_at U ≤ 5 := u1.1
      have r58u := g1.fld 66 58 (by decide) rfl
      refine w_build_140 g1 ho2 (fun q => ?_) (by omega) h5 (by omega) (fun q => ?_) (fun q w n v y5 ew en ev ey => ?_)
      · have h1 := rf_ol_mem (s := u) (o := o) (i := x5.toNat) (n := vs.length) (by omega)
        rw [w3] at h1
        have := rf_vw_lt w4 _ h1
        omega
      · have ex : x5.toNat = vs.length := by omega
        rw [ex, w3] at w1
        obtain ⟨mk1, mk2, mk3, mk4⟩ := hmk trivial
        have hrv : rf_rv u x4 = vs := by
          unfold rf_rv
          rw [show (u.1 66 56 - u.2.1 104 x4.toNat).toNat = vs.length by omega]
          exact w1
        have hRH := rf_RH_up g2.2.2.1 u1
        have hrp := rf_vw_rp (s := u) (U := U) (i := u.2.1 104 x4.toNat) (n := vs.length) (x := x) (by rw [w1]; exact w4)
        rw [show u.2.1 104 x4.toNat + ((vs.length : Nat) : Int) = u.1 66 56 by omega] at hrp
        have hmp : rf_mp u x4.toNat k.2 x (u.1 66 56) := by
          rcases hRH.2 with z | z | z | ⟨_, z2, z3⟩
          · omega
          · omega
          · omega
          · exact ⟨U, ⟨z2, hU5, f1, Int.le_refl _⟩, z3, hrp⟩
        refine ⟨_, ?_, Or.inr (Or.inr (Or.inr (Or.inr ⟨rfl, x4, .leaf, rfl, ⟨g1, g2⟩, by omega, h4, ⟨⟨⟨by omega, by omega⟩, ⟨by rw [mk1, k3], mk2⟩, mk3, mk4⟩, by simp [rf_idx], fun q hq => by simp [rf_idx] at hq; omega⟩, Or.inr ⟨k3, rfl, hmp⟩, ⟨fun z => absurd k3 z, fun z => absurd k3 z⟩, trivial, fun _ => ⟨hrv, w4⟩, Nat.zero_le _, ⟨c1, c2, by omega, c4⟩, rfl⟩)))⟩
        omega
      · have hFB := rf_FB_var (v := v) ew en (by omega)
        have e50 : sx_uf u.1 66 56 w 66 50 = u.1 66 50 := by
          rw [sx_uf_if]
          exact if_neg (fun c => by cases c.2)
        have e58 : sx_uf u.1 66 56 w 66 58 = u.1 66 58 := by
          rw [sx_uf_if]
          exact if_neg (fun c => by cases c.2)
        have e56 : sx_uf u.1 66 56 w 66 56 = w := by
          rw [sx_uf_if]
          exact if_pos ⟨rfl, rfl⟩
        have hv : 0 ≤ v ∧ v < u.1 66 58 := by
          have h1 := rf_ol_mem (s := u) (o := o) (i := x5.toNat) (n := vs.length) (by omega)
          rw [w3, ← ev] at h1
          exact rf_vw_lt w4 _ h1
        refine ⟨_, ?_, Or.inr (Or.inr (Or.inl ⟨rfl, o, x3, x4, y5, rfl, ⟨⟨cx_I_uf rfl rfl (cx_I_ua rfl rfl (F := u.1) (A := u.2.1) (B := u.2.2) g1 (by omega) (by omega)) (by omega) (by omega), rf_FB_trans hFB g2⟩, ho2⟩, k3, ⟨h4, by dsimp only; rw [e50]; exact h4'⟩, fun _ => ?_, ⟨?_, ?_⟩, ⟨?_, w2, ?_, rf_vw_up hFB.2.2.1 w4⟩, by omega, ⟨by dsimp only; rw [e50]; omega, by dsimp only; rw [e58]; omega, by dsimp only; rw [e56]; omega, c4⟩, rfl⟩))⟩
        · omega
        · dsimp only
          rw [sx_ua_ne (by decide), sx_ua_ne (by decide), sx_ua_ne (by decide), sx_ua_ne (by decide)]
          exact hmk trivial
        · dsimp only
          rw [sx_ua_ne (by decide)]
          exact f1
        · dsimp only
          rw [sx_ua_ne (by decide), e56]
          omega
        · dsimp only
          rw [sx_ua_ne (by decide), show y5.toNat = x5.toNat + 1 by omega]
          show rf_rl _ _ x5.toNat ++ [_] = rf_ol _ o x5.toNat ++ [_]
          rw [rf_rl_eq (s := u) (fun i hi => by
            dsimp only
            rw [sx_ua_same]
            dsimp only
            rw [if_neg (by omega)]), w1]
          dsimp only
          rw [sx_ua_same]
          dsimp only
          rw [if_pos (by omega), ev]
          exact congrArg (· ++ [u.2.2.1 o x5.toNat]) (rf_ol_f (s := u)).symm
        · exact (rf_ol_f (s := u)).trans w3
    · have hr := hrs g1 hy
      obtain ⟨u1, u2, u3⟩ := hU k0
      have hU5 : rf_at U ≤ 5 := u1.1
      have e9 := g2.2.1 9 rfl
      have hk12 : k.1 = 1 ∨ k.1 = 2 := by
        rcases u1.2 with z | z | z | z
        · exact absurd z.1 k0
        · exact Or.inl z.1
        · exact Or.inr z.1
        · exact absurd z.1 k3
      have hat := rf_gt_at u2
      have hxp := rf_at_pos x
      cases g with
      | leaf =>
        have e5 : x5 = -1 := hy
        have ew : w = x := t2
        have e0 : (rf_idx (.leaf : rf_N)).length = 0 := rfl
        rw [e0] at c1 c2 c3 c4
        refine w_build_186 (PB := fun _ _ => False) (PA := fun _ _ => False) (fun _ _ q => q.elim) hr (fun _ => ?_) (fun q => absurd e5 q) (fun _ _ q => q.elim) (fun _ _ q => q.elim)
        refine ⟨_, ?_, Or.inr (Or.inr (Or.inr (Or.inr ⟨rfl, x4, fz, rfl, ⟨g1, g2⟩, k0, h4, ⟨a1, a2, a3⟩, Or.inl ⟨hk12, U, rf_RH_H (rf_RH_up g2.2.2.1 u1) _ k3, by rw [← ew]; exact t1⟩, ⟨fun _ us => ?_, fun _ => by rw [hfd, rf_snoc_leaf]; exact hbm⟩, s1, fun z => absurd z k3, w1, ⟨by omega, by omega, by omega, by omega⟩, rfl⟩)))⟩
        · omega
        · rw [hlf us]
          constructor
          · rintro ⟨a, b, q1, q2, q3⟩
            have e : b = [] := q3
            rw [q1, e, List.append_nil]
            exact q2
          · exact fun q => ⟨us, [], (List.append_nil _).symm, q, rfl⟩
      | inner gj gk gu gf gx =>
        obtain ⟨A, B, ew, l2a, l2b⟩ := t2
        have hidx := rf_s1_idx (j := gj) (k := gk) (u := gu) (f := gf) (x := gx)
        have hhr := rf_ht_r (j := gj) (k := gk) (u := gu) (f := gf) (x := gx)
        have hhf := rf_ht_n (j := j) (u := uu) (f := f) (x := y) k0
        have hy2 := hy
        obtain ⟨⟨y0, y1⟩, ⟨y2, y3⟩, y4, y5⟩ := hy2
        have r50u := g1.fld 66 50 (by decide) rfl
        have hx4 := a1.1
        refine w_build_186 (PB := fun z t => cx_I t ∧ rf_FB u t ∧ rf_CB u t (rf_s1 (.inner gj gk gu gf gx)) ∧ rf_made (u.1 66 50) A t z (vq_PB (.inner gj gk gu gf gx) Γ (u.1 66 58) t)) (PA := fun z t => (cx_I t ∧ rf_FB s t) ∧ rf_ym t gx (t.2.1 81 x5.toNat) ∧ ∃ fq : rf_N, (rf_no t (.inner x4.toNat k () fq .leaf) x4 ∧ (rf_idx (.inner x4.toNat k () fq .leaf)).Nodup ∧ ∀ j ∈ rf_idx (.inner x4.toNat k () fq .leaf), x4 ≤ (j : Int)) ∧ (rf_gt (rf_H t) rf_P fq).2 U B ∧ ((∀ us, (rf_lf2 f).2 us ↔ ∃ a b, us = a ++ b ∧ (rf_lf2 fq).2 a ∧ (rf_lf2 gx).2 b) ∧ ∃ fd, f = rf_snoc fd gx ∧ (vq_bm (rf_RP t) (vq_RW t) (s.1 66 58) fd).2 fq) ∧ (rf_sc (rf_G t) fq).2 Γ ∧ (rf_wh fq).2 ≤ 9 * (rf_ht f).2 ∧ rf_CC s t (rf_idx f).length (rf_idx gx).length 1) (fun z t q => q.1.1) hr (fun q => ?_) (fun _ K' hK' => ?_) ?_ ?_
        · exfalso
          omega
        · exact ih (.inner gj gk gu gf gx) A Γ x5 u K' g1 hy (by omega) ((rf_Rt_up g2.2.2.1 (fun q _ => by rw [(g2.same 84 rfl).2])).1 _ l2a) s3.1 s2.1 (by omega) ⟨by omega, by omega, by omega, by omega⟩ (fun z t q1 q2 q3 q4 => hK' z t ⟨q1, q2, q3, q4⟩)
        · rintro z t ⟨q1, q2, ⟨d1, d2, d3, d4⟩, ⟨N, n1, n2, n3, n4, n5, ⟨⟨n6, n7⟩, n8⟩, n9⟩⟩ K' hK'
          have ag := q2.2.2.2.1
          have hnn := (q2.2.2.1.2 0).1.2.2.1
          have b1' := rf_no_up ag hnn a1
          have hzr := rf_nd_rng n1
          have rt50 := q1.fld 66 50 (by decide) rfl
          have hz1 : z ≠ -1 := fun e => by
            have := rf_nd_nil n1 e
            subst this
            exact n5.elim
          have hFs := rf_FB_trans q2 g2
          have hls : ∀ i ∈ rf_idx fz, x4 ≤ (i : Int) := fun i hi => a3 i (List.mem_cons_of_mem _ (List.mem_append_left _ hi))
          have fin : ∀ t2 : sx_S, t2.1 = t.1 → t2.2.2 = t.2.2 → cx_I t2 → rf_FB s t2 → rf_xu t t2 → ((fz = .leaf ∧ t2.2.1 = sx_ua t.2.1 102 x4.toNat z) ∨ (fz ≠ .leaf ∧ t2.2.1 = sx_ua t.2.1 103 (rf_last fz 0) z)) → K' 0 t2 := by
            intro t2 e1 e2 i2 f2 xu2 hC
            obtain ⟨k1, k2, k3', k4⟩ := rf_app_tr (lo := x4) (mid := u.1 66 50) (hi := t.1 66 50) (by rw [e1]) b1' a2 (fun i hi => ⟨a3 i hi, rf_nd_lt a1 i hi⟩) n1 n2 (fun i hi => ⟨n3 i hi, rf_nd_lt n1 i hi⟩) hnn hC
            have e81 : t2.2.1 81 = s.2.1 81 := (f2.same 81 rfl).2
            obtain ⟨_, _, af, _⟩ := a1
            have haf := rf_no_up ag hnn af
            have hb84 : t2.2.1 84 = t.2.1 84 := (f2.same 84 rfl).2.trans (hFs.same 84 rfl).2.symm
            have hu58 := (g2.2.2.1.2 0).1.1
            have hbA : (vq_bm (rf_RP t2) (vq_RW t2) (s.1 66 58) fd).2 fz := (vq_bm_xu (rf_xu_trans xu2 q2.2.2.1) (hb84.trans (q2.same 84 rfl).2) (Int.le_refl _)).2 fz hbm
            have hbB : (vq_bm (rf_RP t2) (vq_RW t2) (s.1 66 58) (.inner gj gk gu gf .leaf)).1 N := vq_bm_1 ((vq_bm_xu xu2 hb84 hu58).1 N n9)
            have hNl : N ≠ .leaf := fun e => by
              rw [e] at n5
              exact n5.elim
            refine hK' _ _ ⟨⟨i2, f2⟩, ?_, rf_snoc fz N, ⟨k1, k2, fun i hi => (k3' i hi).1⟩, ?_, ⟨fun us => ?_, rf_snoc fd (.inner gj gk gu gf .leaf), by rw [rf_snoc_assoc]; exact hfd, vq_bm_s (vq_nx_sg n4 hNl) hbB hbA⟩, ?_, ?_, ⟨by rw [e1]; omega, by rw [e1]; omega, by rw [e1]; omega, by rw [e2]; omega⟩⟩
            · have h81 := (g2.same 81 rfl).2
              rw [e81, show x5.toNat = gj by omega, ← h81]
              exact rf_ym_s g2 f2 (n := gx) (i := u.2.1 81 gj) y5
            · refine rf_gt_snoc ((rf_gt_up (rf_xu_trans xu2 q2.2.2.1) af).2 _ _ t1) ?_
              cases N with
              | leaf => exact n5.elim
              | inner nj nk nu nf nx2 =>
                have en : nx2 = .leaf := n4
                subst en
                rw [ew]
                exact ⟨A, B, rfl, (rf_gt_up xu2 n1).1 _ n5, rfl⟩
            · rw [hlf us]
              cases N with
              | leaf => exact n5.elim
              | inner nj nk nu nf nx2 =>
                have en : nx2 = .leaf := n4
                subst en
                constructor
                · rintro ⟨a, b, h1, h2, ⟨v, b2, h3, h5, h6⟩⟩
                  exact ⟨a ++ [v], b2, by rw [h1, h3, List.append_assoc]; rfl, rf_lf2_snoc1.mpr ⟨a, v, rfl, h2, (n6 [] v).mpr h5⟩, h6⟩
                · rintro ⟨a, b, h1, h2, h3⟩
                  obtain ⟨a2', v, e3, e4, e5⟩ := rf_lf2_snoc1.mp h2
                  exact ⟨a2', v :: b, by rw [h1, e3, List.append_assoc]; rfl, e4, ⟨v, b, rfl, (n6 [] v).mp e5, h3⟩⟩
            · exact rf_sc_snoc ((rf_sc_up (rf_xu_trans xu2 q2.2.2.1) af).2 _ s1) (rf_sc_12 n4 ((rf_sc_up xu2 n1).1 _ n7))
            · rw [rf_wh_snoc]
              have hw2 : (rf_wh N).2 = (rf_wh N).1 := by
                cases N with
                | leaf => exact n5.elim
                | inner nj nk nu nf nx2 =>
                  have en : nx2 = .leaf := n4
                  subst en
                  exact Nat.max_zero _
              rw [hw2]
              omega
          refine c_r_append hsL (d + 1) (by omega) x4 z fz t K' q1 (by omega) (by omega) b1'.2.2.1 (fun hl => fin _ rfl rfl (cx_I_ua rfl rfl (F := t.1) (A := t.2.1) (B := t.2.2) q1 (by omega) (by omega)) (rf_FB_102 (Or.inl rfl) hFs h4 (by omega)) rf_xu_102 (Or.inl ⟨hl, rfl⟩)) (fun l hl el => fin _ rfl rfl (cx_I_ua rfl rfl (F := t.1) (A := t.2.1) (B := t.2.2) q1 (by omega) (by omega)) ?_ (rf_xu_arr (s := t) rfl (fun q hq => sx_ua_ne (by omega))) (Or.inr ⟨hl, by rw [el]⟩))
          have hlm := hls l (by rw [el]; exact rf_last_mem fz 0 hl)
          exact rf_FB_102 (x := (l : Int)) (Or.inr rfl) hFs (by omega) (by omega)
        · rintro z t2 ⟨⟨i2, f2⟩, y6, fq, k1, k2, k3', k4, k5, k6⟩ y7 ey7
          refine ⟨_, ?_, Or.inr (Or.inr (Or.inr (Or.inl ⟨rfl, x4, y7, gx, fq, B, rfl, ⟨i2, f2⟩, k0, k3, h4, k1, by rw [ey7]; exact y6, ⟨k2, l2b⟩, k3', ⟨k4, s2.2, s3.2⟩, ⟨k5, by omega⟩, k6, rfl⟩)))⟩
          have : rf_len (.inner gj gk gu gf gx) = rf_len gx + 1 := rfl
          omega
    · obtain ⟨u1, u2, u3⟩ := hU k0
      have hU5 : rf_at U ≤ 5 := u1.1
      have hat := rf_gt_at u2
      have hxp := rf_at_pos x
      have e9 := g2.2.1 9 rfl
      have e84 := (g2.same 84 rfl).2
      have hlt := rf_nd_lt a1 x4.toNat List.mem_cons_self
      have hx4 := a1.1
      have r50u := g1.fld 66 50 (by decide) rfl
      have hhf := rf_ht_n (j := j) (u := uu) (f := f) (x := y) k0
      refine w_build_216 (PC := K) g1 ⟨by omega, by omega⟩ ?_ (fun _ _ q => q)
      intro a1' ha1 K' hK'
      refine (c_v_clv hsL 5 (d + 1) (by omega)).1 x x4 a1' k fz u K' (by omega) g1 ⟨by omega, by omega⟩ ?_ (by omega) (by omega) (by omega) (by omega) (by omega) a1 a2 a3 hty (fun z t p1 p2 p3 p4 p5 p6 p7 => hK' z t (hK z t p1 ?_ ?_ ?_))
      · rw [ha1, ej, e84]
        exact rf_is_up u3 g2.2.2.1.1
      · exact rf_FB_cl h4 g2 p2 p3 p4 p5
      · obtain ⟨d1, d2, d3, d4⟩ := p6
        have eo : t.2.2 = u.2.2 := (p2 0).2
        rw [hs1]
        refine ⟨by push_cast; omega, by push_cast; omega, ?_, by rw [eo]; omega⟩
        push_cast
        omega
      · obtain ⟨N, n1, n2, n3, n4, n5, ⟨⟨n6, n7, n8⟩, ⟨n9, n10⟩, n11⟩, nz, ny⟩ := p7
        obtain ⟨_, _, af, _⟩ := a1
        have hsm : k.1 = 2 → k.2 ∈ Γ := by
          rcases hsc with ⟨z, _⟩ | ⟨_, z, _⟩
          · exact absurd z k0
          · exact z
        have hsf : (rf_sc rf_G1 f).2 Γ := by
          rcases hsc with ⟨z, _⟩ | ⟨_, _, _, z⟩
          · exact absurd z k0
          · exact z
        have h2i : k.1 = 2 → k.2 < u.1 66 58 := fun q => by
          rcases u1.2 with z | z | z | z
          · omega
          · omega
          · have := z.2.1.2
            have := (g2.2.2.1.2 0).1.1
            omega
          · omega
        refine ⟨N, n1, n2, fun i hi => by have := n3 i hi; omega, n4, n5, ⟨⟨fun us v => ?_, ?_⟩, ?_⟩, ?_⟩
        · rw [n6 us v h2i]
          constructor
          · rintro ⟨q1, q2, q3, q4⟩
            exact Or.inr ⟨q1, q2, q3, (hlf (by omega) us).mpr q4⟩
          · rintro (⟨q, _⟩ | ⟨q1, q2, q3, q4⟩)
            · exact absurd q k0
            · exact ⟨q1, q2, q3, (hlf (by omega) us).mp q4⟩
        · refine n7 (rf_G t) Γ (rf_G_mo t) hsm (fun q => ?_) ((rf_sc_up p4 af).2 _ s1)
          obtain ⟨hv1, hv2⟩ := hv3 q
          obtain ⟨hl1, hl2⟩ := hvs q
          obtain ⟨⟨xx, ⟨z1, z2, z3, z4⟩, z5, z6⟩, hnd⟩ := n8 q
          rw [hv1] at hnd ⊢
          refine ⟨rf_lf2_sc hl1 hsf, fun Γ' hΓ => ?_⟩
          have hln := rf_rp_len z6
          have er : rf_rv t x4 = rf_rl t (t.2.1 104 x4.toNat) (rf_args xx).length := by
            unfold rf_rv
            rw [show (t.1 66 56 - t.2.1 104 x4.toNat).toNat = (rf_args xx).length by omega]
          rw [er] at hnd hΓ
          exact ⟨xx, z5, ⟨z3, by omega⟩, hnd hl2 (fun v hv => (rf_vw_lt hv2 v hv).2), hΓ⟩
        · rw [hhf]
          by_cases q : k.1 = 3
          · have := n10 q
            omega
          · have := n9 q
            omega
        · have hu58 := (g2.2.2.1.2 0).1.1
          have hxs : rf_xu s t := rf_xu_trans p4 g2.2.2.1
          have t84 : t.2.1 84 = u.2.1 84 := (p2.same 84 rfl).2
          have hRP : rf_RP t j x := vq_RP_xu hxs (t84.trans e84) j x u3
          by_cases q : k.1 = 3
          · obtain ⟨hv1, hv2⟩ := hv3 q
            obtain ⟨hl1, hl2⟩ := hvs q
            obtain ⟨⟨xx, ⟨z1, z2, z3, z4⟩, z5, z6⟩, _⟩ := n8 q
            have hln := rf_rp_len z6
            have hny := ny q
            rw [hv1] at hny
            have hlen : (rf_rv t x4).length = (rf_args xx).length := by
              unfold rf_rv
              rw [rf_rl_len]
              omega
            have h50t := (p4.2 0).1.2.2.1
            refine Or.inr (Or.inr ⟨q, vs, rf_rv t x4, x, x4.toNat, hRP, hl1, ⟨⟨by omega, ⟨z3, by omega⟩, ?_⟩, xx, z5, hlen.symm⟩, vq_y_le hu58 hny⟩)
            rw [hlen]
            unfold rf_rv
            rw [show (t.1 66 56 - t.2.1 104 x4.toNat).toNat = (rf_args xx).length by omega]
          · have hk12 : k.1 = 1 ∨ k.1 = 2 := by
              rcases u1.2 with z | z | z | z
              · exact absurd z.1 k0
              · exact Or.inl z.1
              · exact Or.inr z.1
              · exact absurd z.1 q
            exact Or.inr (Or.inl ⟨hk12, fz, x, hRP, (vq_bm_xu p4 t84 (Int.le_refl _)).2 fz (hbm q), vq_z_le hu58 (nz q)⟩)
theorem c_v_build {sL : Nat} {sx : Nat → Int32} (hsL : sL ≤ 3072) : ∀ Z d : Nat, Z ≤ 1000 → 9 * Z + 22 + Z ≤ d → ∀ (m : rf_N) (x : rf_T) (Γ : List Int) (r : Int) (s : sx_S) (K : Int → sx_S → Prop), cx_I s → rf_ym s m r → (rf_ht m).1 ≤ Z → (rf_gt (rf_RH s) (rf_RP s) m).1 x → (rf_gd m).1 → (rf_sc rf_G1 m).1 Γ → (2 ≤ s.1 66 9 ∧ s.1 66 9 ≤ 6000) → rf_RB s (rf_s1 m) → (∀ (z : Int) (t : sx_S), cx_I t → rf_FB s t → rf_CB s t (rf_s1 m) → rf_made (s.1 66 50) x t z (vq_PB m Γ (s.1 66 58) t) → K z t) → sx_C sL sx d 182 [.inr (.inl 66), .inl r] s K := by
  intro Z
  induction Z with
  | zero =>
    intro d _ hd m x Γ r s K hI hm hh hx
    cases m with
    | leaf => exact hx.elim
    | inner j k u f y =>
      exfalso
      by_cases k0 : k.1 = 0
      · have := rf_ht_0 (j := j) (u := u) (f := f) (x := y) k0
        omega
      · have := rf_ht_n (j := j) (u := u) (f := f) (x := y) k0
        omega
  | succ Z ih =>
    intro d hZ hd
    obtain ⟨e, rfl⟩ : ∃ e, d = e + 2 := ⟨d - 2, by omega⟩
    exact vq_bd_ok hsL (by omega) (by omega) (ih (e + 1) (by omega) (by omega))
end
section
/-! ===== the reference: check, with what every NAME means ===== -/
def vk_lk (SN : Int → Int → Prop) (C M : List (Int × qx_T)) : rf_N → px_N → (List (Int × qx_T) → List Int → Prop) × (List (Int × qx_T) → List Int → Prop)
  | .leaf, .leaf => (fun _ _ => False, fun _ _ => True)
  | .inner _ k _ f x, .inner g q _ f' x' => (fun Γ ρ => ((k.1 = 0 ∧ g = 0 ∧ (∀ w ∈ ρ, w < k.2) ∧ (vk_lk SN C M f f').1 (q :: Γ) (k.2 :: ρ)) ∨ (k.1 ≠ 0 ∧ g ≠ 0 ∧ ∃ i u, px_hd SN C M Γ q.1 k.1 i u ∧ ((k.1 = 2 → k.2 = px_id ρ i) ∧ (k.1 ≠ 2 → k.2 = (i : Int))) ∧ (vk_lk SN C M f f').2 Γ ρ)), fun Γ ρ => ((k.1 = 0 ∧ g = 0 ∧ (∀ w ∈ ρ, w < k.2) ∧ (vk_lk SN C M f f').1 (q :: Γ) (k.2 :: ρ)) ∨ (k.1 ≠ 0 ∧ g ≠ 0 ∧ ∃ i u, px_hd SN C M Γ q.1 k.1 i u ∧ ((k.1 = 2 → k.2 = px_id ρ i) ∧ (k.1 ≠ 2 → k.2 = (i : Int))) ∧ (vk_lk SN C M f f').2 Γ ρ)) ∧ (vk_lk SN C M x x').2 Γ ρ)
  | .leaf, .inner _ _ _ _ _ => (fun _ _ => False, fun _ _ => False)
  | .inner _ _ _ _ _, .leaf => (fun _ _ => False, fun _ _ => False)
theorem vk_lk_pv {SN : Int → Int → Prop} {C M : List (Int × qx_T)} : ∀ {N : rf_N} {n : px_N} {Γ : List (Int × qx_T)} {ρ : List Int}, px_so ρ → ρ.length = Γ.length → ((vk_lk SN C M N n).1 Γ ρ → ∀ us v, (∀ l ∈ us, l < Γ.length) → ((rf_lf2 N).1 (us.map (px_id ρ)) v ↔ ∃ l, v = px_id ρ l ∧ (px_pv SN n).1 Γ us l)) ∧ ((vk_lk SN C M N n).2 Γ ρ → ∀ vs, ((rf_lf2 N).2 vs ↔ ∃ ls, vs = ls.map (px_id ρ) ∧ (px_pv SN n).2 Γ ls))
  | .leaf, .leaf, Γ, ρ, _, _ => ⟨fun h => h.elim, fun _ vs => ⟨fun h => ⟨[], h, rfl⟩, fun ⟨ls, h1, h2⟩ => by
    have e : ls = [] := h2
    rw [e] at h1
    exact h1⟩⟩
  | .leaf, .inner _ _ _ _ _, _, _, _, _ => ⟨fun h => h.elim, fun h => h.elim⟩
  | .inner _ _ _ _ _, .leaf, _, _, _, _ => ⟨fun h => h.elim, fun h => h.elim⟩
  | .inner j k u f x, .inner g q u' f' x', Γ, ρ, hs, hl => by
    have h1 : (vk_lk SN C M (.inner j k u f x) (.inner g q u' f' x')).1 Γ ρ → ∀ us v, (∀ l ∈ us, l < Γ.length) → ((rf_lf2 (.inner j k u f x)).1 (us.map (px_id ρ)) v ↔ ∃ l, v = px_id ρ l ∧ (px_pv SN (.inner g q u' f' x')).1 Γ us l) := by
      intro h us v hus
      rcases h with ⟨k0, g0, hw, h⟩ | ⟨k0, g0, i, y, hh, h2, h⟩
      · have ih := (vk_lk_pv (N := f) (n := f') (Γ := q :: Γ) (ρ := k.2 :: ρ) ⟨hw, hs⟩ (by rw [List.length_cons, List.length_cons, hl])).1 h (us ++ [Γ.length]) v (fun l hl' => by
          rw [List.length_cons]
          rcases List.mem_append.mp hl' with z | z
          · have := hus l z
            omega
          · have : l = Γ.length := by simpa using z
            omega)
        have e : (us ++ [Γ.length]).map (px_id (k.2 :: ρ)) = us.map (px_id ρ) ++ [k.2] := by
          rw [List.map_append]
          congr 1
          · apply List.map_congr_left
            intro l hl'
            exact px_id_cons (by rw [hl]; exact hus l hl')
          · rw [List.map_cons, List.map_nil, ← hl, px_id_top]
        rw [e] at ih
        constructor
        · rintro (⟨_, z⟩ | ⟨z, _⟩)
          · obtain ⟨l, l1, l2⟩ := ih.mp z
            have l3 := (px_pv_lt (n := f')).1 l2
            have l4 := px_pv_no l2
            rw [List.length_cons] at l3
            have l5 : l ≠ Γ.length := fun e => l4 (List.mem_append_right _ (by rw [e]; exact List.mem_cons_self))
            exact ⟨l, by rw [l1, px_id_cons (by omega)], Or.inl ⟨g0, l2⟩⟩
          · omega
        · rintro ⟨l, l1, ⟨_, l2⟩ | ⟨l2, _⟩⟩
          · have l3 := (px_pv_lt (n := f')).1 l2
            have l4 := px_pv_no l2
            rw [List.length_cons] at l3
            have l5 : l ≠ Γ.length := fun e => l4 (List.mem_append_right _ (by rw [e]; exact List.mem_cons_self))
            exact Or.inl ⟨k0, ih.mpr ⟨l, by rw [l1, px_id_cons (by omega)], l2⟩⟩
          · exact absurd g0 l2
      · have ih := (vk_lk_pv (N := f) (n := f') (Γ := Γ) (ρ := ρ) hs hl).2 h
        have hus' : ∀ l ∈ us, l < ρ.length := fun l z => by
          rw [hl]
          exact hus l z
        constructor
        · rintro (⟨z, _⟩ | ⟨z, e, hn, z2⟩)
          · exact absurd z k0
          · have hv : px_vr SN Γ q.1 i y := by
              rcases hh with ⟨_, hh⟩ | ⟨hh, _⟩ | ⟨hh, _⟩
              · exact hh
              · omega
              · omega
            have il := px_vr_lt hv
            have e2 := h2.1 z
            obtain ⟨ls, m1, m2⟩ := (ih _).mp z2
            have m3 := (px_pv_lt (n := f')).2 m2
            have m4 := px_map_inj hs hus' (fun l z => by rw [hl]; exact m3 l z) m1
            refine ⟨i, by rw [← e]; exact e2, Or.inr ⟨g0, ⟨y, hv⟩, fun z3 => hn ?_, by rw [m4]; exact m2⟩⟩
            rw [← e, e2]
            exact (px_map_mem hs hus' (by omega)).mpr z3
        · rintro ⟨l, l1, ⟨l2, _⟩ | ⟨_, ⟨y', l2⟩, l3, l4⟩⟩
          · exact absurd l2 g0
          · have ll := px_vr_lt l2
            rcases hh with ⟨z, hh⟩ | ⟨_, hh, _⟩ | ⟨_, hh, _⟩
            · obtain ⟨rfl, _⟩ := px_vr_fun hh l2
              have e2 := h2.1 z
              refine Or.inr ⟨z, by rw [l1]; exact e2, fun z3 => l3 ?_, (ih _).mpr ⟨us, rfl, l4⟩⟩
              rw [l1] at z3
              exact (px_map_mem hs hus' (by omega)).mp z3
            · exact (px_vr_nv l2 hh).elim
            · exact (px_vr_nv l2 hh).elim
    refine ⟨h1, fun h vs => ?_⟩
    have a := h1 h.1 [] 
    have b := (vk_lk_pv (N := x) (n := x') (Γ := Γ) (ρ := ρ) hs hl).2 h.2
    constructor
    · intro z
      obtain ⟨w, r, e, z1, z2⟩ := rf_lf2_c.mp z
      obtain ⟨l, l1, l2⟩ := (a w (fun l z => absurd z List.not_mem_nil)).mp z1
      obtain ⟨ls, l3, l4⟩ := (b r).mp z2
      exact ⟨l :: ls, by rw [e, l1, l3]; rfl, px_pv_c.mpr ⟨l, ls, rfl, l2, l4⟩⟩
    · rintro ⟨ls, e, z⟩
      obtain ⟨l, ls', e2, z1, z2⟩ := px_pv_c.mp z
      subst e2
      rw [e]
      exact rf_lf2_c.mpr ⟨px_id ρ l, ls'.map (px_id ρ), rfl, (a _ (fun l z => absurd z List.not_mem_nil)).mpr ⟨l, rfl, z1⟩, (b _).mpr ⟨ls', rfl, z2⟩⟩
/-- the unknown's ARGs are distinct variables, in both ways of saying it -/
theorem vk_lk_pt {SN : Int → Int → Prop} {C M Γ : List (Int × qx_T)} {ρ : List Int} {N : rf_N} {n : px_N} (hs : px_so ρ) (hl : ρ.length = Γ.length) (h : (vk_lk SN C M N n).2 Γ ρ) : (∃ vs, (rf_lf2 N).2 vs ∧ vs.Nodup) ↔ px_pt' SN Γ n := by
  have a := (vk_lk_pv hs hl).2 h
  constructor
  · rintro ⟨vs, h1, h2⟩
    obtain ⟨ls, h3, h4⟩ := (a vs).mp h1
    rw [h3] at h2
    exact ⟨ls, h4, (px_map_nd hs (fun l z => by rw [hl]; exact (px_pv_lt (n := n)).2 h4 l z)).mp h2⟩
  · rintro ⟨ls, h1, h2⟩
    exact ⟨ls.map (px_id ρ), (a _).mpr ⟨ls, rfl, h1⟩, (px_map_nd hs (fun l z => by rw [hl]; exact (px_pv_lt (n := n)).2 h1 l z)).mpr h2⟩
theorem vk_lk_snoc {SN : Int → Int → Prop} {C M Γ : List (Int × qx_T)} {ρ : List Int} {P : rf_N} {P' : px_N} (hp : (vk_lk SN C M P P').2 Γ ρ) : ∀ {N : rf_N} {n : px_N}, (vk_lk SN C M N n).2 Γ ρ → (vk_lk SN C M (rf_snoc N P) (px_snoc n P')).2 Γ ρ
  | .leaf, .leaf, _ => hp
  | .leaf, .inner _ _ _ _ _, h => h.elim
  | .inner _ _ _ _ _, .leaf, h => h.elim
  | .inner _ _ _ _ _, .inner _ _ _ _ _, h => ⟨h.1, vk_lk_snoc hp h.2⟩
def vk_C1 (b : Nat → Int) (n : Int) (C M Γ : List (Int × qx_T)) (ρ : List Int) (n' : px_N) (t : sx_S) (N : rf_N) (z : Int) : Prop := True → (t.1 66 40 = 0 → ∃ y, (px_wt (px_SN b n) C M n').1 Γ y ∧ qx_is t y z ∧ (vk_lk (px_SN b n) C M N n').1 Γ ρ) ∧ (t.1 66 40 ≠ 0 → ∀ y, ¬ (px_wt (px_SN b n) C M n').1 Γ y)
def vk_C2 (b : Nat → Int) (n : Int) (C M Γ : List (Int × qx_T)) (ρ : List Int) (n' : px_N) (a : Int) (t : sx_S) (o v : Int) (D : rf_N) (D' : px_N) (x2 : Int) : Prop := True → (t.1 66 40 = 0 → ∃ i U W, px_hd (px_SN b n) C M Γ a o i U ∧ ((o = 2 → v = px_id ρ i) ∧ (o ≠ 2 → v = (i : Int))) ∧ (px_wt (px_SN b n) C M D').2 Γ U W ∧ qx_is t W x2 ∧ (vk_lk (px_SN b n) C M D D').2 Γ ρ) ∧ (t.1 66 40 ≠ 0 → ∀ y, ¬ (px_wt (px_SN b n) C M n').1 Γ y)
def vk_C3 (b : Nat → Int) (n : Int) (C M Γ : List (Int × qx_T)) (ρ : List Int) (n' : px_N) (a : Int) (t : sx_S) (o v : Int) (D : rf_N) (D' : px_N) (N : rf_N) (g' : px_N) (x2 : Int) : Prop := True → (t.1 66 40 = 0 → ∃ i U A B, px_hd (px_SN b n) C M Γ a o i U ∧ ((o = 2 → v = px_id ρ i) ∧ (o ≠ 2 → v = (i : Int))) ∧ (px_wt (px_SN b n) C M D').2 Γ U (qx_a A B) ∧ qx_is t (qx_a A B) x2 ∧ (vk_lk (px_SN b n) C M D D').2 Γ ρ ∧ (px_wt (px_SN b n) C M g').1 Γ A ∧ (vk_lk (px_SN b n) C M N g').1 Γ ρ) ∧ (t.1 66 40 ≠ 0 → ∀ y, ¬ (px_wt (px_SN b n) C M n').1 Γ y)
section VKC
variable {b : Nat → Int} {n m : Int} {C M Γ : List (Int × qx_T)} {ρ : List Int} {s t u : sx_S} {a o v z x2 x4 : Int} {D N FM X : rf_N} {D' g' f' x' n' : px_N} {q : Int × qx_T} {u0 u1 : Unit} {j : Nat}
theorem vk_C1_w {g : Nat} (hg : g = 0) (h5 : 5 < qx_at q.2) (t40 : t.1 66 40 ≠ 0) : vk_C1 b n C M Γ ρ (.inner g q u0 f' x') t N z := fun _ => ⟨fun h => absurd h t40, fun _ y h => by
  rcases h with ⟨_, h, _⟩ | ⟨h, _⟩
  · omega
  · exact h hg⟩
theorem vk_C1_l {g : Nat} {k : Int × Int} (hg : g = 0) (hk : k.1 = 0) (h : vk_C1 b n C M (q :: Γ) (k.2 :: ρ) f' u FM x2) (u40 : u.1 66 40 = 0) (t40 : t.1 66 40 = 0) (h5 : qx_at q.2 ≤ 5) (hq : ∀ y, qx_is u y x2 → qx_is t (qx_a q.2 y) z) (hw : ∀ x ∈ ρ, x < k.2) : vk_C1 b n C M Γ ρ (.inner g q u0 f' x') t (.inner j k u1 FM X) z := fun _ => by
  obtain ⟨y, h1, h2, h3⟩ := (h trivial).1 u40
  exact ⟨fun _ => ⟨qx_a q.2 y, Or.inl ⟨hg, h5, y, h1, rfl⟩, hq y h2, Or.inl ⟨hk, hg, hw, h3⟩⟩, fun e => absurd t40 e⟩
theorem vk_C1_lb {g : Nat} {ρ' : List Int} (hg : g = 0) (h : vk_C1 b n C M (q :: Γ) ρ' f' u FM x2) (u40 : u.1 66 40 ≠ 0) (t40 : t.1 66 40 ≠ 0) : vk_C1 b n C M Γ ρ (.inner g q u0 f' x') t N z := fun _ => ⟨fun e => absurd e t40, fun _ y hh => by
  rcases hh with ⟨_, _, B, h1, _⟩ | ⟨h1, _⟩
  · exact (h trivial).2 u40 B h1
  · exact h1 hg⟩
theorem vk_C2_0 {g : Nat} (hg : g ≠ 0) {r : Int} (h : px_mq b n C M Γ s t r z) (ha : s.2.1 75 r.toNat = q.1) (hid : ∀ k, k < Γ.length → s.2.1 94 k = px_id ρ k) (h40 : s.1 66 40 = 0) : vk_C2 b n C M Γ ρ (.inner g q u0 f' x') q.1 t (t.2.1 83 r.toNat) (t.2.1 82 r.toNat) .leaf .leaf z := fun _ => by
  obtain ⟨h1, h2⟩ := h trivial
  rw [ha] at h1 h2
  refine ⟨fun e => ?_, fun e y hh => ?_⟩
  · obtain ⟨o, k, U, a1, a2, a3, a4, a5⟩ := h1 e
    refine ⟨k, U, U, by rw [a2]; exact a1, ⟨fun e2 => ?_, fun e2 => a4 (fun e3 => e2 (a2.trans e3))⟩, rfl, a5, trivial⟩
    have e3 : o = 2 := a2.symm.trans e2
    rw [a3 e3]
    refine hid k ?_
    rcases a1 with ⟨_, a1⟩ | ⟨a1, _⟩ | ⟨a1, _⟩
    · exact px_vr_lt a1
    · omega
    · omega
  · rcases hh with ⟨hh, _⟩ | ⟨_, o, k, U, hh, _⟩
    · exact hg hh
    · exact h2 h40 e o k U hh
theorem vk_C2_c {g gg : Nat} {gq : Int × qx_T} {gu : Unit} {gf gx : px_N} (hg : g ≠ 0) (h : vk_C2 b n C M Γ ρ (.inner g q u0 f' x') q.1 u o v D D' x2) (u40 : u.1 66 40 = 0) (hc : vk_C1 b n C M Γ ρ (.inner gg gq gu gf gx) t N x4) (hf : f' = px_snoc D' (.inner gg gq gu gf gx)) (tu : rf_tu u t) : vk_C2 b n C M Γ ρ (.inner g q u0 f' x') q.1 t o v D D' x2 := fun _ => by
  obtain ⟨i, U, W, a1, a2, a3, a4, a5⟩ := (h trivial).1 u40
  refine ⟨fun _ => ⟨i, U, W, a1, a2, a3, qx_is_up a4 tu, a5⟩, fun e y hh => ?_⟩
  obtain ⟨A, B, _, h2, _⟩ := px_wt_c.mp (px_wt_row hg a1 a3 hf hh)
  exact (hc trivial).2 e A h2
theorem vk_C2_n {g : Nat} (hg : g ≠ 0) (h : vk_C2 b n C M Γ ρ (.inner g q u0 f' x') q.1 u o v D D' x2) (t40 : t.1 66 40 ≠ 0) (hn : u.1 66 40 = 0 → ∀ y, ¬ (px_wt (px_SN b n) C M (.inner g q u0 f' x')).1 Γ y) {o2 v2 x3 : Int} {D2 : rf_N} {D2' : px_N} : vk_C2 b n C M Γ ρ (.inner g q u0 f' x') q.1 t o2 v2 D2 D2' x3 := fun _ => ⟨fun e => absurd e t40, fun _ => by
  by_cases e : u.1 66 40 = 0
  · exact hn e
  · exact (h trivial).2 e⟩
theorem vk_C3_n (t40 : t.1 66 40 ≠ 0) (hn : ∀ y, ¬ (px_wt (px_SN b n) C M n').1 Γ y) : vk_C3 b n C M Γ ρ n' a t o v D D' N g' x2 := fun _ => ⟨fun e => absurd e t40, fun _ => hn⟩
/-- compared: the same, or not -/
theorem vk_C3_s {g gg : Nat} {gq : Int × qx_T} {gu : Unit} {gf gx : px_N} (hg : g ≠ 0) (h : vk_C2 b n C M Γ ρ (.inner g q u0 f' x') q.1 u o v D D' x2) (hc : vk_C1 b n C M Γ ρ (.inner gg gq gu gf gx) u N x4) (u40 : u.1 66 40 = 0) (hf : f' = px_snoc D' (.inner gg gq gu gf gx)) (hx : 2 ≤ x2) : ∃ A X, qx_is u A (u.2.1 72 x2.toNat) ∧ qx_is u X x4 ∧ (A = X → vk_C3 b n C M Γ ρ (.inner g q u0 f' x') q.1 u o v D D' N (.inner gg gq gu gf gx) x2) ∧ (A ≠ X → ∀ y, ¬ (px_wt (px_SN b n) C M (.inner g q u0 f' x')).1 Γ y) := by
  obtain ⟨i, U, W, a1, a2, a3, a4, a5⟩ := (h trivial).1 u40
  obtain ⟨X, b1, b2, b3⟩ := (hc trivial).1 u40
  obtain ⟨A, B, e, c1, c2⟩ := qx_ty_a a4 hx
  subst e
  refine ⟨A, X, c1, b2, fun e => ?_, fun hne y hh => ?_⟩
  · subst e
    exact fun _ => ⟨fun _ => ⟨i, U, A, B, a1, a2, a3, a4, a5, b1, b3⟩, fun e => absurd u40 e⟩
  · obtain ⟨A', B', d1, d2, _⟩ := px_wt_c.mp (px_wt_row hg a1 a3 hf hh)
    obtain ⟨rfl, _⟩ := qx_a_inj d1
    exact hne (px_wt_fun.1 d2 b1)
theorem vk_C3_l {g gg : Nat} {gq : Int × qx_T} {gu : Unit} {gf gx : px_N} (hg : g ≠ 0) (h : vk_C2 b n C M Γ ρ (.inner g q u0 f' x') q.1 u o v D D' x2) (u40 : u.1 66 40 = 0) (hf : f' = px_snoc D' (.inner gg gq gu gf gx)) (hx : x2 < 2) : ∀ y, ¬ (px_wt (px_SN b n) C M (.inner g q u0 f' x')).1 Γ y := by
  intro y hh
  obtain ⟨i, U, W, a1, a2, a3, a4, a5⟩ := (h trivial).1 u40
  obtain ⟨A', B', d1, d2, _⟩ := px_wt_c.mp (px_wt_row hg a1 a3 hf hh)
  rw [d1] at a4
  rcases a4.2 with ⟨e, _⟩ | ⟨_, e, _⟩
  · cases e
  · omega
/-- one ARG more -/
theorem vk_C2_s {g gg : Nat} {gq : Int × qx_T} {gu : Unit} {gf gx : px_N} {gj : Nat} {gk : Int × Int} {gv : Unit} {gf2 gx2 : rf_N} (h : vk_C3 b n C M Γ ρ n' a u o v D D' (.inner gj gk gv gf2 gx2) (.inner gg gq gu gf gx) x2) (hy : u.1 66 40 = 0 → z = u.2.1 73 x2.toNat) : vk_C2 b n C M Γ ρ n' a u o v (rf_snoc D (.inner gj gk gv gf2 .leaf)) (px_snoc D' (.inner gg gq gu gf .leaf)) z := fun _ => by
  refine ⟨fun e => ?_, (h trivial).2⟩
  obtain ⟨i, U, A, B, a1, a2, a3, a4, a5, a6, a7⟩ := (h trivial).1 e
  have a8 : (vk_lk (px_SN b n) C M (.inner gj gk gv gf2 .leaf) (.inner gg gq gu gf .leaf)).2 Γ ρ := ⟨a7, trivial⟩
  refine ⟨i, U, B, a1, a2, px_wt_snoc.mpr ⟨_, a3, A, B, rfl, a6, rfl⟩, ?_, vk_lk_snoc a8 a5⟩
  rcases a4.2 with ⟨e, _⟩ | ⟨_, _, _, e2⟩
  · cases e
  · rw [hy e]
    exact e2
/-- all ARGs -/
theorem vk_C1_a {g : Nat} {k : Int × Int} (hg : g ≠ 0) (hk : k.1 ≠ 0) (h : vk_C2 b n C M Γ ρ (.inner g q u0 f' x') q.1 u k.1 k.2 FM f' x2) (tu : rf_tu u t) (h40 : t.1 66 40 = 0 → u.1 66 40 = 0) (hp : u.1 66 40 = 0 → k.1 = 3 → (vk_lk (px_SN b n) C M FM f').2 Γ ρ → (t.1 66 40 = 0 ↔ px_pt' (px_SN b n) Γ f')) (h3 : u.1 66 40 = 0 → k.1 ≠ 3 → t.1 66 40 = 0) : vk_C1 b n C M Γ ρ (.inner g q u0 f' x') t (.inner j k u1 FM X) x2 := fun _ => by
  refine ⟨fun e => ?_, fun e y hh => ?_⟩
  · obtain ⟨i, U, W, a1, a2, a3, a4, a5⟩ := (h trivial).1 (h40 e)
    exact ⟨W, Or.inr ⟨hg, k.1, i, U, a1, a3, fun e3 => (hp (h40 e) e3 a5).mp e⟩, qx_is_up a4 tu, Or.inr ⟨hk, hg, i, U, a1, a2, a5⟩⟩
  · by_cases u40 : u.1 66 40 = 0
    · obtain ⟨i, U, W, a1, a2, a3, a4, a5⟩ := (h trivial).1 u40
      by_cases k3 : k.1 = 3
      · rcases hh with ⟨hh, _⟩ | ⟨_, o', i', U', h1, h2, h4⟩
        · exact hg hh
        · obtain ⟨e1, _, _⟩ := px_hd_fun a1 h1
          exact e ((hp u40 k3 a5).mpr (h4 (e1.symm.trans k3)))
      · exact e (h3 u40 k3)
    · exact (h trivial).2 u40 y hh
end VKC
section VKC2
variable {b : Nat → Int} {n m : Int} {C M Γ : List (Int × qx_T)} {ρ : List Int} {s t u : sx_S} {a o v w z x2 x4 : Int} {D N FM FM' X : rf_N} {D' g' f' x' n' : px_N} {q : Int × qx_T} {u0 u1 : Unit} {j : Nat}
theorem vk_C1_l2 {g : Nat} {k : Int × Int} (hg : g = 0) (hk : k.1 = 0) (hk2 : k.2 = w) (hFM : FM' = FM) (h : vk_C1 b n C M (q :: Γ) (w :: ρ) f' u FM x2) (u40 : u.1 66 40 = 0) (t40 : t.1 66 40 = 0) (h5 : qx_at q.2 ≤ 5) (hq : ∀ y, qx_is u y x2 → qx_is t (qx_a q.2 y) z) (hw : ∀ x ∈ ρ, x < w) : vk_C1 b n C M Γ ρ (.inner g q u0 f' x') t (.inner j k u1 FM' X) z := by
  subst hk2 hFM
  exact vk_C1_l hg hk h u40 t40 h5 hq hw
theorem vk_C2_o {o' : Int} (h : vk_C2 b n C M Γ ρ n' a t o v D D' x2) (e : t.1 66 40 = 0 → o' = o) : vk_C2 b n C M Γ ρ n' a t o' v D D' x2 := fun _ => ⟨fun q => by
  rw [e q]
  exact (h trivial).1 q, (h trivial).2⟩
theorem vk_C1_a2 {g : Nat} {k : Int × Int} (hg : g ≠ 0) (ek1 : k.1 = o) (ek2 : k.2 = v) (eFM : FM' = FM) (hk : u.1 66 40 = 0 → o ≠ 0) (h : vk_C2 b n C M Γ ρ (.inner g q u0 f' x') q.1 u o v FM f' x2) (tu : rf_tu u t) (h40 : t.1 66 40 = 0 → u.1 66 40 = 0) (hp : u.1 66 40 = 0 → o = 3 → (vk_lk (px_SN b n) C M FM f').2 Γ ρ → (t.1 66 40 = 0 ↔ px_pt' (px_SN b n) Γ f')) (h3 : u.1 66 40 = 0 → o ≠ 3 → t.1 66 40 = 0) : vk_C1 b n C M Γ ρ (.inner g q u0 f' x') t (.inner j k u1 FM' X) x2 := by
  subst ek1 ek2 eFM
  by_cases u40 : u.1 66 40 = 0
  · exact vk_C1_a hg (hk u40) h tu h40 hp h3
  · exact fun _ => ⟨fun e => absurd (h40 e) u40, fun _ => (h trivial).2 u40⟩
end VKC2
end
