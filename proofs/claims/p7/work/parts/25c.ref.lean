/-! ===== the reference: meet ===== -/
theorem rf_PU_1 {s t1 t : sx_S} {g g' : rf_Gh} {p : Nat} (hI : cx_I t) (hF : rf_FS s t) (hM : rf_MI (t.1 66 71) (t.1 66 58) t g') (hE : rf_EX (s.1 66 71) (s.1 66 58) s t) (hG : rf_EG s g g') (hp : rf_ph t g' ≤ 1150) (hR : rf_RM 0 t) (hq : rf_qu t < rf_qu s) (h71 : t.1 66 71 = s.1 66 71) (h58 : t.1 66 58 = s.1 66 58) (h70 : t.1 66 70 ≠ s.1 66 70) : rf_PU s t g 1 p := ⟨by omega, hI, hF, fun _ => ⟨g', hM, hE, hG, ⟨hp, hR, by omega⟩, ⟨by omega, by omega⟩, ⟨by omega, by omega⟩, fun q => absurd q h70, fun _ => hq⟩⟩
theorem rf_CL_b {s : sx_S} {g : rf_Gh} (hI : cx_I s) {N : Int → rf_T → Prop} {A : rf_N} {y : rf_Y} {x : rf_T} {W : List Nat} {p : Nat} {i b : Int} (k : rf_CL s g N A y x W p i b) : 0 ≤ i ∧ i ≤ 59999 := by
  obtain ⟨j, kk, u, f, n, _, e1, e2, e3, _⟩ := rf_CL_node k
  have := hI.fld 66 50 (by decide) rfl
  omega
/-- an unknown's node -/
theorem rf_CL_3 {s : sx_S} {g : rf_Gh} {N : Int → rf_T → Prop} {A : rf_N} {y : rf_Y} {x : rf_T} {W : List Nat} {p : Nat} {i b : Int} (k : rf_CL s g N A y x W p i b) (h3 : s.2.1 100 i.toNat = 3) : (0 ≤ s.2.1 101 i.toNat ∧ s.2.1 101 i.toNat < s.1 66 61) ∧ (0 ≤ s.2.1 104 i.toNat ∧ s.2.1 104 i.toNat + rf_aa s (s.2.1 101 i.toNat) ≤ s.1 66 56) ∧ x = .leaf ∧ (∃ (j : Nat) (kk : Int × Int) (u : Unit) (f n : rf_N), A = .inner j kk u f n ∧ i.toNat = j ∧ kk.1 = 3 ∧ kk.2 = s.2.1 101 i.toNat) := by
  obtain ⟨j, kk, u, f, n, eA, e1, e2, e3, e4, e5, e6, e7, e8⟩ := rf_CL_node k
  rw [e2, e4] at h3
  rcases e8 with ⟨c, _⟩ | ⟨c, hx, w, hw, _⟩
  · omega
  · obtain ⟨h1, h2, h4, h5⟩ := rf_Hn_3 hw h3
    rw [e2, e5]
    exact ⟨h2, h4, hx, j, kk, u, f, n, eA, rfl, h3, rfl⟩
theorem c_r_meet {sL : Nat} {sx : Nat → Int32} (hsL : sL ≤ 3072) (d : Nat) (hd : 120 ≤ d) : ∀ (NA NB : Int → rf_T → Prop) (A B : rf_N) (yA yB : rf_Y) (x : rf_T) (WA WB : List Nat) (pa pb p : Nat) (a ba b bb : Int) (s : sx_S) (g : rf_Gh) (K : Int → sx_S → Prop), cx_I s → rf_MI (s.1 66 71) (s.1 66 58) s g → rf_ph s g ≤ 1150 → rf_RM 0 s → rf_CL s g NA A yA x WA pa a ba → rf_CL s g NB B yB x WB pb b bb → s.2.1 100 a.toNat = 3 → s.2.1 100 b.toNat = 3 → s.2.1 101 a.toNat = s.2.1 101 b.toNat → s.2.1 111 (s.2.1 101 a.toNat).toNat = 0 → (∀ z t, rf_PU s t g z p → K z t) → sx_C sL sx d 196 [.inr (.inl 66), .inl a, .inl ba, .inl b, .inl bb] s K := by
  intro NA NB A B yA yB x WA WB pa pb p a ba b bb s g K hI hM hph hR kA kB hA3 hB3 hm ho hK
  obtain ⟨d, rfl⟩ : ∃ e, d = e + 2 := ⟨d - 2, by omega⟩
  have pA := rf_CL_b hI kA
  have pB := rf_CL_b hI kB
  obtain ⟨m0, m1, _⟩ := rf_CL_3 kA hA3
  obtain ⟨n0, n1, _⟩ := rf_CL_3 kB hB3
  obtain ⟨mm, hmm⟩ : ∃ m, m = s.2.1 101 a.toNat := ⟨_, rfl⟩
  rw [← hm] at n1
  rw [← hmm] at m0 m1 n1 ho
  have har : rf_aa s mm = s.2.1 108 mm.toNat := rfl
  rw [har] at m1 n1
  have r108 := hI.arr 108 (by decide) rfl mm.toNat
  have r56 := hI.fld 66 56 (by decide) rfl
  have r61 := hI.fld 66 61 (by decide) rfl
  have yA4 := kA.1.2.2.2
  have yB4 := kB.1.2.2.2
  obtain ⟨q1, q2, q3, q4, q5, q6⟩ := hR
  have dA : rf_dp yA ≤ 100 := by have := yA4.2.2.2; omega
  have dB : rf_dp yB ≤ 100 := by have := yB4.2.2.2; omega
  refine sx_methL (wr := true) (n := 400) (n' := 400) (stop := [(14, [0, 1, 2, 3, 4, 5, 6, 7])]) (fun nn pc ls v => (pc = 14 ∧ ∃ x5 x6 x7 : Int, ls = [(0, .inr (.inl 66)), (1, .inl a), (2, .inl ba), (3, .inl b), (4, .inl bb), (5, .inl x5), (6, .inl x6), (7, .inl x7)] ∧ s = v ∧ x6 = mm ∧ rf_bg x5 x7 (fun _ => True) ∧ (0 ≤ x7 ∧ x7 ≤ s.2.1 108 mm.toNat) ∧ nn = (4 - x7).toNat)) hsL (e := eX12_meet) rfl ?_ ?_
  · exact w_meet hI pA (fun v hv => ⟨_, rfl, 0, v, 0, rfl, rfl, by rw [hv, hmm], rf_bg_0 _, by omega, rfl⟩)
  · rintro nn pc ls v ⟨rfl, x5, x6, x7, rfl, rfl, hx6, hbg, h7, rfl⟩
    subst hx6
    refine w_meet_14 (w1 := rf_vo s yA a x7.toNat) (w2 := rf_vo s yB b x7.toNat) (PA := fun z t => (s.2.1 108 x6.toNat ≤ x7 ∧ x5 ≠ sx_w true (sx_b (fun x y => x <<< (y &&& 31)) 1 (s.2.1 108 x6.toNat) - 1)) ∧ cx_I t ∧ cx_F [(66, 66), (105, 105)] s t ∧ rf_f [56] s t ∧ z = s.1 66 56 ∧ t.1 66 56 = s.1 66 56 + s.2.1 108 x6.toNat ∧ rf_ag 105 105 (s.1 66 56) s t ∧ (∀ k : Nat, (k : Int) < s.2.1 108 x6.toNat → t.2.1 105 (z + (k : Int)).toNat = rf_vo s yA a k)) (PP := fun t => rf_PU s t g 1 p) hI (by omega) hbg.1 (by omega) (rf_look_in hI yA4.1 (hI.arr 105 (by decide) rfl _)) (rf_look_in hI yB4.1 (hI.arr 105 (by decide) rfl _)) ?_ ?_ ?_ ?_ ?_ ?_ ?_
    · intro hx K' hK'
      exact c_r_varOf hsL 100 (d + 1) (by omega) yA a ba x7 s K' hI pA (by omega) (by omega) dA yA4.1 hK'
    · intro hx K' hK'
      exact c_r_varOf hsL 100 (d + 1) (by omega) yB b bb x7 s K' hI pB (by omega) (by omega) dB yB4.1 hK'
    · intro hx c v y hc hv hy
      exact ⟨_, by omega, rfl, v, x6, y, rfl, rfl, rfl, rf_bg_s (by omega) hbg (hc.elim Or.inl (fun z => Or.inr ⟨z, trivial⟩)) hv hy, by omega, rfl⟩
    · intro _
      exact hK 1 s (rf_PU_same hI hM hph ⟨q1, q2, q3, q4, q5, q6⟩)
    · intro hx hne K' hK'
      exact c_r_actual hsL 100 (d + 1) (by omega) yA a ba (s.2.1 108 x6.toNat) s K' hI pA (by omega) (by rw [hmm]) (by omega) (fun k hk => by omega) dA yA4.1 (fun z t c1 c2 c3 c4 c5 c6 c7 => hK' z t ⟨⟨hx, hne⟩, c1, c2, c3, c4, c5, c6, c7⟩)
    · rintro z t ⟨⟨hx, hne⟩, c1, c2, c3, c4, c5, c6, c7⟩ K' hK'
      have ex7 : x7 = s.2.1 108 x6.toNat := by omega
      obtain ⟨hE, hFS⟩ := rf_EX_row (nb := s.1 66 71) (ib := s.1 66 58) c2 c3 c6 (by omega)
      have hNC : rf_NC s t := rf_NC_F c2 rfl c3 rfl
      obtain ⟨z1, z2, z3, z4⟩ := rf_act_ok hM kA hA3 hmm ho c2 c3 c4 c5 c6 c7 r108.1 r56.1
      have e50 := c3 50 rfl
      have e58 := c3 58 rfl
      have e61 := c3 61 rfl
      have e64 := c3 64 rfl
      have e70 := c3 70 rfl
      have e71 := c3 71 rfl
      have t108 : t.2.1 108 = s.2.1 108 := (c2.same 108 rfl).2
      have eaa : rf_aa t x6 = s.2.1 108 x6.toNat := by
        unfold rf_aa
        rw [t108]
      have hMt : rf_MI (t.1 66 71) (t.1 66 58) t g := rf_NC_MI hE hNC (by omega) (by omega) hM
      have hnm : ∃ j : Nat, (j : Int) < s.2.1 108 x6.toNat ∧ ¬ rf_bt x5 (j : Int) := by
        have h1 := rf_bg_m (a := s.2.1 108 x6.toNat) r108 (by rw [← ex7]; exact hbg)
        exact Classical.byContradiction (fun hcon => hne (h1.mpr (fun j hj => Classical.byContradiction (fun hb => hcon ⟨j, hj, hb⟩))))
      obtain ⟨j0, j1, j2⟩ := hnm
      obtain ⟨T0, t0⟩ := (hMt.1 x6 z1.1 (by omega)).1 ((s.2.1 108 x6.toNat).toNat - 1) (by rw [eaa]; omega)
      have hqu : rf_qu t = rf_qu s := rf_NC_qu hE hNC
      refine c_r_keep hsL (d + 1) (by omega) x6 z x5 t K' c1 (by omega) (by omega) (by omega) (by omega) (by omega) (by rw [t108]; rw [eaa] at z2; omega) (by have := t0.1.2; rw [t108]; omega) hbg.1 (by omega) (fun zz t2 u kf n hW hkf hki hn hA => ?_)
      have hkp := rf_MI_keep (nb := t.1 66 71) (ib := t.1 66 58) c1 hMt (by omega) (by rw [(c2.same 111 rfl).2]; exact ho) (by omega) z2 (fun q hq => Or.inl (z3 q hq)) z4 hW (fun i hi => (hkf i hi).1) hki (hn.2 ⟨j0, by rw [t108]; exact j1, j2⟩) hA
      obtain ⟨hE2, g', k1, k2, k3, k4, k5, k6⟩ := hkp
      have hfs := rf_FS_KA hW hA
      obtain ⟨⟨_, _, b3⟩, _⟩ := hW
      obtain ⟨a1, a2, a3, a4, _⟩ := hA
      have f71 := b3 71 rfl
      have f58 := b3 58 rfl
      have f70 := b3 70 rfl
      have h71 := a3 71 rfl
      have h58 := a3 58 rfl
      refine hK' zz t2 (rf_PU_1 (t1 := t) a1 (rf_FS_trans hfs hFS) ?_ (rf_EX_trans hE2 hE (by omega) (by omega)) (rf_EG_trans hE k2 (rf_EG_refl _ _)) ?_ (k6 ?_) (by omega) (by omega) (by omega) (by omega))
      · rw [show t2.1 66 71 = t.1 66 71 by omega, show t2.1 66 58 = t.1 66 58 by omega]
        exact k1
      · have := rf_NC_ph (g := g) hE hNC
        omega
      · refine ⟨by omega, by omega, by omega, by omega, by omega, by omega⟩
    · intro t ht
      exact hK 1 t ht
