/-! ===== the reference: meet, and the solutions ===== -/
theorem c_v_meet {sL : Nat} {sx : Nat → Int32} (hsL : sL ≤ 3072) (d : Nat) (hd : 120 ≤ d) : ∀ (NA NB : Int → rf_T → Prop) (A B : rf_N) (yA yB : rf_Y) (x : rf_T) (WA WB : List Nat) (pa pb p : Nat) (a ba b bb : Int) (s : sx_S) (g : rf_Gh) (AR : Nat → List Int) (K : Int → sx_S → Prop), cx_I s → rf_MI (s.1 66 71) (s.1 66 58) s g → rf_ph s g ≤ 1150 → rf_RM 0 s → vr_G s g AR → vr_t s AR A → vr_t s AR B → rf_CL s g NA A yA x WA pa a ba → rf_CL s g NB B yB x WB pb b bb → s.2.1 100 a.toNat = 3 → s.2.1 100 b.toNat = 3 → s.2.1 101 a.toNat = s.2.1 101 b.toNat → s.2.1 111 (s.2.1 101 a.toNat).toNat = 0 → (∀ z t, vr_PU s t g AR z p (vr_E AR A yA B yB (s.1 66 58)) → K z t) → sx_C sL sx d 196 [.inr (.inl 66), .inl a, .inl ba, .inl b, .inl bb] s K := by
  intro NA NB A B yA yB x WA WB pa pb p a ba b bb s g AR K hI hM hph hR hV tA tB kA kB hA3 hB3 hm ho hK
  obtain ⟨d, rfl⟩ : ∃ e, d = e + 2 := ⟨d - 2, by omega⟩
  have pA := rf_CL_b hI kA
  have pB := rf_CL_b hI kB
  obtain ⟨m0, m1, _⟩ := rf_CL_3 kA hA3
  obtain ⟨n0, n1, _⟩ := rf_CL_3 kB hB3
  obtain ⟨mm, hmm⟩ : ∃ m, m = s.2.1 101 a.toNat := ⟨_, rfl⟩
  have hmm2 : mm = s.2.1 101 b.toNat := hmm.trans hm
  have hPE : ∀ th, vx_So (vr_S s g AR) th → (vx_re (vx_ix ((List.range (rf_aa s mm).toNat).map (rf_vo s yA a)) (s.1 66 58)) (th mm) = vx_re (vx_ix ((List.range (rf_aa s mm).toNat).map (rf_vo s yB b)) (s.1 66 58)) (th mm) ↔ vr_E AR A yA B yB (s.1 66 58) th) := fun th hS => by
    unfold vr_E
    rw [vr_E_3 kA hA3 hmm tA (fun m => (hS.1 m).1), vr_E_3 kB hB3 hmm2 tB (fun m => (hS.1 m).1)]
  rw [← hm] at n1
  rw [← hmm] at m0 m1 n1 ho
  have har : rf_aa s mm = s.2.1 108 mm.toNat := rfl
  rw [har] at m1 n1
  have r108 := hI.arr 108 (by decide) rfl mm.toNat
  have r56 := hI.fld 66 56 (by decide) rfl
  have r61 := hI.fld 66 61 (by decide) rfl
  have yA4 := kA.1.2.2.2
  have yB4 := kB.1.2.2.2
  obtain ⟨q1, q2, q3, q4, q5, q6⟩ := hR
  have dA : rf_dp yA ≤ 100 := by have := yA4.2.2.2; omega
  have dB : rf_dp yB ≤ 100 := by have := yB4.2.2.2; omega
  refine sx_methL (wr := true) (n := 400) (n' := 400) (stop := [(14, [0, 1, 2, 3, 4, 5, 6, 7])]) (fun nn pc ls v => (pc = 14 ∧ ∃ x5 x6 x7 : Int, ls = [(0, .inr (.inl 66)), (1, .inl a), (2, .inl ba), (3, .inl b), (4, .inl bb), (5, .inl x5), (6, .inl x6), (7, .inl x7)] ∧ s = v ∧ x6 = mm ∧ vr_bg x5 x7 (fun q => rf_vo s yA a q = rf_vo s yB b q) ∧ (0 ≤ x7 ∧ x7 ≤ s.2.1 108 mm.toNat) ∧ nn = (4 - x7).toNat)) hsL (e := eX12_meet) rfl ?_ ?_
  · exact w_meet hI pA (fun v hv => ⟨_, rfl, 0, v, 0, rfl, rfl, by rw [hv, hmm], vr_bg_0 _, by omega, rfl⟩)
  · rintro nn pc ls v ⟨rfl, x5, x6, x7, rfl, rfl, hx6, hbg, h7, rfl⟩
    subst hx6
    refine w_vmeet_14 (w1 := rf_vo s yA a x7.toNat) (w2 := rf_vo s yB b x7.toNat) (PA := fun z t => (s.2.1 108 x6.toNat ≤ x7 ∧ x5 ≠ sx_w true (sx_b (fun x y => x <<< (y &&& 31)) 1 (s.2.1 108 x6.toNat) - 1)) ∧ cx_I t ∧ cx_F [(66, 66), (105, 105)] s t ∧ rf_f [56] s t ∧ z = s.1 66 56 ∧ t.1 66 56 = s.1 66 56 + s.2.1 108 x6.toNat ∧ rf_ag 105 105 (s.1 66 56) s t ∧ (∀ k : Nat, (k : Int) < s.2.1 108 x6.toNat → t.2.1 105 (z + (k : Int)).toNat = rf_vo s yA a k)) (PP := fun t => vr_PU s t g AR 1 p (vr_E AR A yA B yB (s.1 66 58))) hI (by omega) hbg.1 (by omega) (rf_look_in hI yA4.1 (hI.arr 105 (by decide) rfl _)) (rf_look_in hI yB4.1 (hI.arr 105 (by decide) rfl _)) ?_ ?_ ?_ ?_ ?_ ?_ ?_
    · intro hx K' hK'
      exact c_r_varOf hsL 100 (d + 1) (by omega) yA a ba x7 s K' hI pA (by omega) (by omega) dA yA4.1 hK'
    · intro hx K' hK'
      exact c_r_varOf hsL 100 (d + 1) (by omega) yB b bb x7 s K' hI pB (by omega) (by omega) dB yB4.1 hK'
    · intro hx c v y hc hv hy
      exact ⟨_, by omega, rfl, v, x6, y, rfl, rfl, rfl, vr_bg_s (by omega) hbg hc hv hy, by omega, rfl⟩
    · intro hx hmk
      have ex7 : x7 = s.2.1 108 x6.toNat := by omega
      have h1 := (rf_bg_m (a := s.2.1 108 x6.toNat) r108 (by rw [← ex7]; exact hbg.bg)).mp hmk
      refine hK 1 s (vr_PU_same hI hM hph ⟨q1, q2, q3, q4, q5, q6⟩ hV (fun th hS => (hPE th hS).mp ?_))
      have : (List.range (rf_aa s x6).toNat).map (rf_vo s yA a) = (List.range (rf_aa s x6).toNat).map (rf_vo s yB b) := List.map_congr_left (fun q hq => by
        have hq := List.mem_range.mp hq
        exact ((hbg.2 q (by omega)).mp (h1 q (by omega))).2)
      rw [this]
    · intro hx hne K' hK'
      exact c_r_actual hsL 100 (d + 1) (by omega) yA a ba (s.2.1 108 x6.toNat) s K' hI pA (by omega) (by rw [hmm]) (by omega) (fun k hk => by omega) dA yA4.1 (fun z t c1 c2 c3 c4 c5 c6 c7 => hK' z t ⟨⟨hx, hne⟩, c1, c2, c3, c4, c5, c6, c7⟩)
    · rintro z t ⟨⟨hx, hne⟩, c1, c2, c3, c4, c5, c6, c7⟩ K' hK'
      have ex7 : x7 = s.2.1 108 x6.toNat := by omega
      obtain ⟨hE, hFS⟩ := rf_EX_row (nb := s.1 66 71) (ib := s.1 66 58) c2 c3 c6 (by omega)
      have hNC : rf_NC s t := rf_NC_F c2 rfl c3 rfl
      obtain ⟨z1, z2, z3, z4⟩ := rf_act_ok hM kA hA3 hmm ho c2 c3 c4 c5 c6 c7 r108.1 r56.1
      have e50 := c3 50 rfl
      have e58 := c3 58 rfl
      have e61 := c3 61 rfl
      have e64 := c3 64 rfl
      have e70 := c3 70 rfl
      have e71 := c3 71 rfl
      have t108 : t.2.1 108 = s.2.1 108 := (c2.same 108 rfl).2
      have eaa : rf_aa t x6 = s.2.1 108 x6.toNat := by
        unfold rf_aa
        rw [t108]
      have hMt : rf_MI (t.1 66 71) (t.1 66 58) t g := rf_NC_MI hE hNC (by omega) (by omega) hM
      have hnm : ∃ j : Nat, (j : Int) < s.2.1 108 x6.toNat ∧ ¬ rf_bt x5 (j : Int) := by
        have h1 := rf_bg_m (a := s.2.1 108 x6.toNat) r108 (by rw [← ex7]; exact hbg.bg)
        exact Classical.byContradiction (fun hcon => hne (h1.mpr (fun j hj => Classical.byContradiction (fun hb => hcon ⟨j, hj, hb⟩))))
      obtain ⟨j0, j1, j2⟩ := hnm
      obtain ⟨T0, t0⟩ := (hMt.1 x6 z1.1 (by omega)).1 ((s.2.1 108 x6.toNat).toNat - 1) (by rw [eaa]; omega)
      have hqu : rf_qu t = rf_qu s := rf_NC_qu hE hNC
      refine c_v_keep hsL (d + 1) (by omega) x6 z x5 t K' c1 (by omega) (by omega) (by omega) (by omega) (by omega) (by rw [t108]; rw [eaa] at z2; omega) (by have := t0.1.2; rw [t108]; omega) hbg.1 (by omega) (fun zz t2 u kf n hW hkf hki hkc hn hA hKC => ?_)
      have hkp := rf_MI_keep (nb := t.1 66 71) (ib := t.1 66 58) c1 hMt (by omega) (by rw [(c2.same 111 rfl).2]; exact ho) (by omega) z2 (fun q hq => Or.inl (z3 q hq)) z4 hW (fun i hi => (hkf i hi).1) hki (hn.2 ⟨j0, by rw [t108]; exact j1, j2⟩) hA
      obtain ⟨hE2, g', k1, k2, k3, k4, k5, k6⟩ := hkp
      have hVt : vr_G t g AR := vr_G_up hE (rf_EG_refl _ _) hNC (fun _ _ => rfl) hV
      obtain ⟨hnw, hG2⟩ := vr_keep (AR := AR) c1 hE2 hMt k1 k2 hVt (by omega) (by rw [(c2.same 111 rfl).2]; exact ho) z2 z4 hW (fun i hi => (hkf i hi).1) hki hA
      have eS : vr_S t g AR = vr_S s g AR := vr_S_NC hE hNC e50 hM
      rw [eS] at hnw
      have eaS : (vr_S s g AR).2.2.1 x6 = s.2.1 108 x6.toNat := vr_ar_at z1
      have hYs := vr_Y_cg (vr_W hI hV) hPE (vr_meet (L := s.1 66 58) (xs := (List.range (rf_aa s x6).toNat).map (rf_vo s yA a)) (ys := (List.range (rf_aa s x6).toNat).map (rf_vo s yB b)) (vr_W hI hV) hnw (by rw [vr_gl, eaS]; omega) (by rw [vr_gl, eaS]; omega) (fun i hi => by
        rw [eaS] at hi
        have w1 : ((List.range (rf_aa s x6).toNat).map (rf_vo s yA a))[i]? = some (rf_vo s yA a i) := vr_gr.mpr ⟨by omega, rfl⟩
        have w2 : ((List.range (rf_aa s x6).toNat).map (rf_vo s yB b))[i]? = some (rf_vo s yB b i) := vr_gr.mpr ⟨by omega, rfl⟩
        rw [w1, w2, vr_gm]
        constructor
        · rintro ⟨k, k1, k2⟩
          have := (hkf k k1).2
          rw [← k2] at this
          rw [((hbg.2 i (by omega)).mp this).2]
        · intro z
          have hb := (hbg.2 i (by omega)).mpr ⟨by omega, Option.some.inj z⟩
          obtain ⟨k, k1, k2⟩ := hkc i (by rw [t108]; exact hi) hb
          exact ⟨k, k1, by rw [k2]⟩))
      have hfs := rf_FS_KA hW hA
      obtain ⟨⟨_, _, b3⟩, _⟩ := hW
      obtain ⟨a1, a2, a3, a4, _⟩ := hA
      have f71 := b3 71 rfl
      have f58 := b3 58 rfl
      have f70 := b3 70 rfl
      have h71 := a3 71 rfl
      have h58 := a3 58 rfl
      refine hK' zz t2 (vr_PU_1 (AR := AR) a1 (rf_FS_trans hfs hFS) ?_ (rf_EX_trans hE2 hE (by omega) (by omega)) (rf_EG_trans hE k2 (rf_EG_refl _ _)) ?_ (k6 ?_) (by omega) (by omega) (by omega) (by omega) hG2 (fun j hj => vr_nA_lt j (by omega)) hYs)
      · rw [show t2.1 66 71 = t.1 66 71 by omega, show t2.1 66 58 = t.1 66 58 by omega]
        exact k1
      · have := rf_NC_ph (g := g) hE hNC
        omega
      · refine ⟨by omega, by omega, by omega, by omega, by omega, by omega⟩
    · intro t ht
      exact hK 1 t ht
