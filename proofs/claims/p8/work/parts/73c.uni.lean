section
/-! ===== the reference: unify and the solutions, its contract ===== -/
/-- two heads with ARGs -/
theorem vr_hk_V {u : sx_S} {g : rf_Gh} {AR : Nat → List Int} {N : Int → rf_T → Prop} {A : rf_N} {y : rf_Y} {x : rf_T} {W : List Nat} {p : Nat} {i b v L : Int} (k : rf_CL u g N A y x W p i b) (hk : rf_hk u i) (hv : rf_hv u y i v) (tA : vr_t u AR A) : vr_r u AR (rf_fst A) ∧ ∀ th, vr_V th AR A y L = rf_n 0 (u.2.1 100 i.toNat) v (vr_X th AR (rf_fst A) y L) .leaf := by
  obtain ⟨j, kk, uu, f, n, eA, e1, e2, e3, e4, e5, e6, e7, e8⟩ := rf_CL_node k
  subst eA
  unfold rf_hv at hv
  unfold rf_hk at hk
  rw [e2, e4] at hk
  rw [e2, e4, e5] at hv
  refine ⟨?_, fun th => ?_⟩
  · rcases tA.2 with ⟨q, _⟩ | ⟨q, _⟩ | ⟨_, q⟩
    · omega
    · omega
    · exact q
  · rw [vr_V_rig hk, e2, e4, hv]
    rfl
theorem vr_PU_rf {s t : sx_S} {g : rf_Gh} {AR : Nat → List Int} {z : Int} {p : Nat} {P : (Int → rf_N) → Prop} (h : vr_PU s t g AR z p P) : rf_PU s t g z p := by
  obtain ⟨h1, h2, h3, _, h4⟩ := h
  refine ⟨h1, h2, h3, fun hz => ?_⟩
  obtain ⟨g', AR', k1, k2, k3, k4, k5, k6, k7, k8, _⟩ := h4 hz
  exact ⟨g', k1, k2, k3, k4, k5, k6, k7, k8⟩
theorem vr_PU_sym {s t : sx_S} {g : rf_Gh} {AR : Nat → List Int} {z : Int} {p : Nat} {A B : rf_N} {yA yB : rf_Y} {L : Int} (hI : cx_I s) (hV : vr_G s g AR) (h : vr_PU s t g AR z p (vr_E AR B yB A yA L)) : vr_PU s t g AR z p (vr_E AR A yA B yB L) := by
  obtain ⟨h1, h2, h3, h0, h4⟩ := h
  have hs : ∀ th, vx_So (vr_S s g AR) th → (vr_E AR B yB A yA L th ↔ vr_E AR A yA B yB L th) := fun th _ => ⟨fun q => q.symm, fun q => q.symm⟩
  refine ⟨h1, h2, h3, fun hz => vr_N_cg (fun th hS hp => (hs th hS).mpr hp) (h0 hz), fun hz => ?_⟩
  obtain ⟨g', AR', k1, k2, k3, k4, k5, k6, k7, k8, k9, k10, k11⟩ := h4 hz
  exact ⟨g', AR', k1, k2, k3, k4, k5, k6, k7, k8, k9, k10, vr_Y_cg (vr_W hI hV) hs k11⟩
theorem vr_UL_m {s u t : sx_S} {g g1 : rf_Gh} {AR1 : Nat → List Int} {P : (Int → rf_N) → Prop} {e p' : Nat} {z : Int} (h : rf_UL s u g g1 e p') (k : vr_PU u t g1 AR1 z p' P) (hz : z ≠ 0) (h70 : t.1 66 70 ≠ u.1 66 70) : ∃ g2 AR2, rf_UL s t g g2 e p' ∧ rf_EX (u.1 66 71) (u.1 66 58) u t ∧ rf_EG u g1 g2 ∧ u.1 66 71 ≤ t.1 66 71 ∧ u.1 66 58 ≤ t.1 66 58 ∧ vr_G t g2 AR2 ∧ (∀ j : Nat, (j : Int) < u.1 66 50 → AR2 j = AR1 j) ∧ vr_Y (vr_S u g1 AR1) (vr_S t g2 AR2) P := by
  obtain ⟨⟨h1, h2, h3, h4, h5⟩, ⟨h6, h6', h6''⟩, ⟨h7, h8⟩, ⟨h9, h10⟩, h11, h12⟩ := h
  obtain ⟨k1, k2, k3, _, k4⟩ := k
  obtain ⟨g', AR', j1, j2, j3, ⟨j4, j4', j4''⟩, ⟨j5, j5'⟩, ⟨j6, j6'⟩, j7, j8, j9, j10, j11⟩ := k4 hz
  have hlt := j8 h70
  have h70t := j2.1.2.2.2.2.2
  have h70s := h3.1.2.2.2.2.2
  have ha := rf_ar1 (a := rf_qu s) (b := rf_qu u) (c := rf_qu t) (p' := p') (by omega) (by omega)
  have hmx : max 1 (rf_qu u - rf_qu t) = rf_qu u - rf_qu t := Nat.max_eq_right (by omega)
  rw [hmx] at j5' j6'
  exact ⟨g', AR', ⟨⟨k2, j1, rf_EX_trans j2 h3 (by omega) (by omega), rf_EG_trans h3 j3 h4, rf_FS_trans k3 h5⟩, ⟨j4, j4', by omega⟩, ⟨by omega, by omega⟩, ⟨by omega, by omega⟩, fun q => (h70 (by clear hmx ha j5' j6' h8 h10; omega)).elim, fun _ => by clear hmx ha j5' j6' h8 h10; omega⟩, j2, j3, j5, j6, j9, j10, j11⟩
set_option maxRecDepth 8000 in
theorem vr_ut_ok {sL : Nat} {sx : Nat → Int32} (hsL : sL ≤ 3072) {P d : Nat} (hd : P + 149 ≤ d) (ih : vr_UT sL sx P (d + 1)) : vr_UT sL sx (P + 1) (d + 2) := by
  intro NA0 NB0 A0 B0 yA0 yB0 x WA0 WB0 pa0 pb0 a ba b bb s g AR K hI hM hph hR hV tA0 tB0 kA0 kB0 hpa0 hpb0 h71 h58 hK
  obtain ⟨P0, hP0⟩ : ∃ P0, P0 = vr_E AR A0 yA0 B0 yB0 (s.1 66 58) := ⟨_, rfl⟩
  rw [← hP0] at hK
  have pA := rf_CL_b hI kA0
  have pB := rf_CL_b hI kB0
  have r61 := hI.fld 66 61 (by decide) rfl
  have r56 := hI.fld 66 56 (by decide) rfl
  have hR2 := hR
  obtain ⟨q1, q2, q3, q4, q5, q6⟩ := hR
  have b71 := rf_bud1 h71
  have b58 := rf_bud1 h58
  refine sx_methW (wr := true) (n := 400) (n' := 400) (stop := [(69, [0, 5, 6, 7, 8]), (122, [0, 5, 6, 7, 8]), (175, [0, 5, 6, 7, 8]), (403, [0, 5, 6, 7, 8, 9]), (439, [0, 5, 6, 7, 8, 9, 10]), (483, [0, 6, 8, 11, 12])]) (fun ms pc ls u => (pc = 69 ∧ ∃ (NA NB : Int → rf_T → Prop) (A B : rf_N) (yA yB : rf_Y) (WA WB : List Nat) (pa pb : Nat) (x5 x6 x7 x8 : Int), ls = [(0, .inr (.inl 66)), (5, .inl x5), (6, .inl x6), (7, .inl x7), (8, .inl x8)] ∧ vr_U2 s u g AR P0 x pa0 pb0 NA NB A B yA yB WA WB pa pb x5 x6 x7 x8 ∧ ms = (3, pa)) ∨ (pc = 122 ∧ ∃ (NA NB : Int → rf_T → Prop) (A B : rf_N) (yA yB : rf_Y) (WA WB : List Nat) (pa pb : Nat) (x5 x6 x7 x8 : Int), ls = [(0, .inr (.inl 66)), (5, .inl x5), (6, .inl x6), (7, .inl x7), (8, .inl x8)] ∧ vr_U2 s u g AR P0 x pa0 pb0 NA NB A B yA yB WA WB pa pb x5 x6 x7 x8 ∧ rf_op u x5 ∧ ms = (2, pb)) ∨ (pc = 175 ∧ ∃ (NA NB : Int → rf_T → Prop) (A B : rf_N) (yA yB : rf_Y) (WA WB : List Nat) (pa pb : Nat) (x5 x6 x7 x8 : Int), ls = [(0, .inr (.inl 66)), (5, .inl x5), (6, .inl x6), (7, .inl x7), (8, .inl x8)] ∧ vr_U2 s u g AR P0 x pa0 pb0 NA NB A B yA yB WA WB pa pb x5 x6 x7 x8 ∧ rf_op u x5 ∧ rf_op u x7 ∧ ms = (1, 0)) ∨ (pc = 403 ∧ ∃ (NA NB : Int → rf_T → Prop) (A B : rf_N) (yA yB : rf_Y) (WA WB : List Nat) (pa pb : Nat) (x5 x6 x7 x8 : Int) (x9 : Int), ls = [(0, .inr (.inl 66)), (5, .inl x5), (6, .inl x6), (7, .inl x7), (8, .inl x8), (9, .inl x9)] ∧ vr_U2 s u g AR P0 x pa0 pb0 NA NB A B yA yB WA WB pa pb x5 x6 x7 x8 ∧ rf_hv u yA x5 x9 ∧ rf_hk u x5 ∧ rf_hk u x7 ∧ ms = (0, rf_len (rf_fst A) + 2)) ∨ (pc = 439 ∧ ∃ (NA NB : Int → rf_T → Prop) (A B : rf_N) (yA yB : rf_Y) (WA WB : List Nat) (pa pb : Nat) (x5 x6 x7 x8 : Int) (x9 x10 : Int), ls = [(0, .inr (.inl 66)), (5, .inl x5), (6, .inl x6), (7, .inl x7), (8, .inl x8), (9, .inl x9), (10, .inl x10)] ∧ vr_U2 s u g AR P0 x pa0 pb0 NA NB A B yA yB WA WB pa pb x5 x6 x7 x8 ∧ rf_hv u yA x5 x9 ∧ rf_hv u yB x7 x10 ∧ rf_hk u x5 ∧ rf_hk u x7 ∧ ms = (0, rf_len (rf_fst A) + 1)) ∨ (pc = 483 ∧ ∃ (NA NB : Int → rf_T → Prop) (fa fb : rf_N) (yA yB : rf_Y) (WA WB : List Nat) (p1 p2 e : Nat) (w : rf_T) (g1 : rf_Gh) (AR1 : Nat → List Int) (x6 x8 x11 x12 : Int), ls = [(0, .inr (.inl 66)), (6, .inl x6), (8, .inl x8), (11, .inl x11), (12, .inl x12)] ∧ (rf_UL s u g g1 e (p1 + p2) ∧ vr_UL s u g g1 AR AR1 fa fb yA yB P0) ∧ e + (p1 + p2) ≤ pa0 + pb0 ∧ rf_CR u g1 NA fa yA w WA p1 x12 x6 ∧ rf_CR u g1 NB fb yB w WB p2 x11 x8 ∧ p1 ≤ P ∧ p2 ≤ P ∧ ms = (0, rf_len fa))) hsL (e := eX12_unify) rfl ?_ ?_
  · refine w_vunify (PS := fun z => z ≠ 0 → ∀ q : Nat, (q : Int) < s.2.1 108 (s.2.1 101 a.toNat).toNat → rf_vo s yA0 a q = rf_vo s yB0 b q) hI pA pB ?_ ?_ ⟨_, Or.inl (⟨rfl, NA0, NB0, A0, B0, yA0, yB0, WA0, WB0, pa0, pb0, a, ba, b, bb, rfl, ⟨⟨rf_UB_refl hI, kA0, kB0, Nat.le_refl _, Nat.le_refl _⟩, ⟨tA0, tB0⟩, fun th _ => by rw [hP0]⟩, rfl⟩)⟩
    rotate_left
    · rintro h1 h2 h3 ⟨zz, z1, z2⟩
      refine hK 1 s (vr_PU_same hI hM hph hR2 hV (fun th hS => ?_))
      rw [hP0]
      unfold vr_E
      have r108 := hI.arr 108 (by decide) rfl (s.2.1 101 a.toNat).toNat
      rw [vr_E_3 kA0 h1 rfl tA0 (fun m => (hS.1 m).1), vr_E_3 kB0 h2 rfl tB0 (fun m => (hS.1 m).1), ← h3]
      have : (List.range (rf_aa s (s.2.1 101 a.toNat)).toNat).map (rf_vo s yA0 a) = (List.range (rf_aa s (s.2.1 101 a.toNat)).toNat).map (rf_vo s yB0 b) := List.map_congr_left (fun q hq => z2 z1 q (by
        have := List.mem_range.mp hq
        unfold rf_aa at this
        omega))
      rw [this]
    intro h1 h2 h3 K' hK'
    obtain ⟨m0, m1, _⟩ := rf_CL_3 kA0 h1
    obtain ⟨n0, n1, _⟩ := rf_CL_3 kB0 h2
    rw [← h3] at n1
    have yA4 := kA0.1.2.2.2
    have yB4 := kB0.1.2.2.2
    have r108 := hI.arr 108 (by decide) rfl (s.2.1 101 a.toNat).toNat
    unfold rf_aa at m1 n1
    exact c_v_sameVars hsL 100 (d + 1) (by omega) yA0 yB0 a ba b bb s K' hI pA pB (by omega) (fun q hq => ⟨by omega, by omega⟩) (by have := yA4.2.2.2; omega) (by have := yB4.2.2.2; omega) yA4.1 yB4.1 hK'
  · rintro ms pc ls u (⟨rfl, NA, NB, A, B, yA, yB, WA, WB, pa, pb, x5, x6, x7, x8, rfl, hU, rfl⟩ | ⟨rfl, NA, NB, A, B, yA, yB, WA, WB, pa, pb, x5, x6, x7, x8, rfl, hU, ho, rfl⟩ | ⟨rfl, NA, NB, A, B, yA, yB, WA, WB, pa, pb, x5, x6, x7, x8, rfl, hU, ho, ho2, rfl⟩ | ⟨rfl, NA, NB, A, B, yA, yB, WA, WB, pa, pb, x5, x6, x7, x8, x9, rfl, hU, hv, hk, hk2, rfl⟩ | ⟨rfl, NA, NB, A, B, yA, yB, WA, WB, pa, pb, x5, x6, x7, x8, x9, x10, rfl, hU, hv, hv2, hk, hk2, rfl⟩ | ⟨rfl, NA, NB, fa, fb, yA, yB, WA, WB, p1, p2, e, w, g1, AR1, x6, x8, x11, x12, rfl, ⟨hL, hLV⟩, he, cA, cB, hp1, hp2, rfl⟩)
    · -- 69
      obtain ⟨⟨hB, kA, kB, hpa, hpb⟩, ⟨tA, tB⟩, hPP⟩ := hU
      obtain ⟨hMu, hphu, hRu, hqu⟩ := rf_UB_M hB hM hph hR2
      have eS : vr_S u g AR = vr_S s g AR := vr_UB_S hB hM
      have hVu : vr_G u g AR := vr_G_up hB.1.2.1 (rf_EG_refl _ _) hB.1.2.2.1 (fun _ _ => rfl) hV
      have u1 := hB.1.1
      have u71 := hB.2.1
      have u70 := hRu.2.2.2.2.1
      have pA := rf_CL_b u1 kA
      have pB := rf_CL_b u1 kB
      have ru := u1.fld 66 61 (by decide) rfl
      refine w_unify_69 (PE := fun z t => (cx_I t ∧ cx_F [(66, 66), (115, 117)] u t ∧ rf_f [71] u t ∧ rf_ag 115 117 (u.1 66 71) u t ∧ (u.1 66 71 ≤ t.1 66 71 ∧ t.1 66 71 ≤ u.1 66 71 + 5)) ∧ x = .leaf ∧ 5 ≤ pa ∧ (∃ (N' : Int → rf_T → Prop) (A' : rf_N) (y' : rf_Y) (W' : List Nat), rf_CL t g N' A' y' .leaf W' (pa - 5) (t.2.1 113 (u.2.1 101 x5.toNat).toNat) z ∧ vr_t t AR A' ∧ ∀ th, vx_So (vr_S u g AR) th → ∀ L, vr_V th AR A yA L = vr_V th AR A' y' L)) u1 pA pB (fun q => by have := (rf_CL_3 kA q).1; omega) ?_ ?_ ?_ ?_
      · intro h3 hs K' hK'
        exact vr_en_C hsL (by omega) u1 hVu tA hMu (Int.le_refl _) (Int.le_refl _) hphu (by omega) kA h3 hs (by omega) (fun z t c1 c2 c3 c4 c5 c6 c7 c8 => hK' z t ⟨⟨c1, c2, c3, c4, c5⟩, c6, c7, c8⟩)
      · rintro z t ⟨⟨c1, c2, _⟩, _⟩
        exact ⟨c1, (c2.same 101 rfl).2⟩
      · rintro h3 hs z t ⟨⟨c1, c2, c3, c4, c5⟩, rfl, c7, N', A', y', W', c8, c9, c10⟩ v hv
        obtain ⟨hE, _⟩ := rf_EX_name (ib := u.1 66 58) c2 c3 c4
        have kB2 := rf_CL_up hE c5.1 (Int.le_of_eq (c3 58 rfl).symm) (rf_EG_refl u g) hMu.ub kB
        rw [hv]
        have hB2 := rf_UB_s (k := 5) hB c1 c2 c3 c4 c5 (by omega)
        rw [show pa + pb - 5 = pa - 5 + pb by omega] at hB2
        exact ⟨_, rf_lex2 (by omega), Or.inl (⟨rfl, N', NB, A', B, y', yB, W', WB, pa - 5, pb, _, z, x7, x8, rfl, ⟨⟨hB2, c8, kB2, by omega, hpb⟩, ⟨c9, (vr_t_up hE (fun _ _ => rfl)).1 tB⟩, fun th hS => by
          rw [← hPP th hS]
          unfold vr_E
          rw [c10 th (by rw [eS]; exact hS)]⟩, rfl⟩)⟩
      · intro hx
        exact ⟨_, rf_lex1 (by decide), Or.inr (Or.inl (⟨rfl, NA, NB, A, B, yA, yB, WA, WB, pa, pb, x5, x6, x7, x8, rfl, ⟨⟨hB, kA, kB, hpa, hpb⟩, ⟨tA, tB⟩, hPP⟩, hx, rfl⟩))⟩
    · -- 122
      obtain ⟨⟨hB, kA, kB, hpa, hpb⟩, ⟨tA, tB⟩, hPP⟩ := hU
      obtain ⟨hMu, hphu, hRu, hqu⟩ := rf_UB_M hB hM hph hR2
      have eS : vr_S u g AR = vr_S s g AR := vr_UB_S hB hM
      have hVu : vr_G u g AR := vr_G_up hB.1.2.1 (rf_EG_refl _ _) hB.1.2.2.1 (fun _ _ => rfl) hV
      have u1 := hB.1.1
      have u71 := hB.2.1
      have u70 := hRu.2.2.2.2.1
      have pA := rf_CL_b u1 kA
      have pB := rf_CL_b u1 kB
      have ru := u1.fld 66 61 (by decide) rfl
      refine w_unify_122 (PE := fun z t => (cx_I t ∧ cx_F [(66, 66), (115, 117)] u t ∧ rf_f [71] u t ∧ rf_ag 115 117 (u.1 66 71) u t ∧ (u.1 66 71 ≤ t.1 66 71 ∧ t.1 66 71 ≤ u.1 66 71 + 5)) ∧ x = .leaf ∧ 5 ≤ pb ∧ (∃ (N' : Int → rf_T → Prop) (A' : rf_N) (y' : rf_Y) (W' : List Nat), rf_CL t g N' A' y' .leaf W' (pb - 5) (t.2.1 113 (u.2.1 101 x7.toNat).toNat) z ∧ vr_t t AR A' ∧ ∀ th, vx_So (vr_S u g AR) th → ∀ L, vr_V th AR B yB L = vr_V th AR A' y' L)) u1 pA pB (fun q => by have := (rf_CL_3 kB q).1; omega) ?_ ?_ ?_ ?_
      · intro h3 hs K' hK'
        exact vr_en_C hsL (by omega) u1 hVu tB hMu (Int.le_refl _) (Int.le_refl _) hphu (by omega) kB h3 hs (by omega) (fun z t c1 c2 c3 c4 c5 c6 c7 c8 => hK' z t ⟨⟨c1, c2, c3, c4, c5⟩, c6, c7, c8⟩)
      · rintro z t ⟨⟨c1, c2, _⟩, _⟩
        exact ⟨c1, (c2.same 101 rfl).2⟩
      · rintro h3 hs z t ⟨⟨c1, c2, c3, c4, c5⟩, rfl, c7, N', A', y', W', c8, c9, c10⟩ v hv
        obtain ⟨hE, _⟩ := rf_EX_name (ib := u.1 66 58) c2 c3 c4
        have kA2 := rf_CL_up hE c5.1 (Int.le_of_eq (c3 58 rfl).symm) (rf_EG_refl u g) hMu.ub kA
        rw [hv]
        have hB2 := rf_UB_s (k := 5) hB c1 c2 c3 c4 c5 (by omega)
        rw [show pa + pb - 5 = pa + (pb - 5) by omega] at hB2
        have hop : rf_op t x5 := by
          unfold rf_op
          rw [(c2.same 100 rfl).2, (c2.same 101 rfl).2, (c2.same 111 rfl).2]
          exact ho
        exact ⟨_, rf_lex2 (by omega), Or.inr (Or.inl (⟨rfl, NA, N', A, A', yA, y', WA, W', pa, pb - 5, x5, x6, _, z, rfl, ⟨⟨hB2, kA2, c8, hpa, by omega⟩, ⟨(vr_t_up hE (fun _ _ => rfl)).1 tA, c9⟩, fun th hS => by
          rw [← hPP th hS]
          unfold vr_E
          rw [c10 th (by rw [eS]; exact hS)]⟩, hop, rfl⟩))⟩
      · intro hx
        exact ⟨_, rf_lex1 (by decide), Or.inr (Or.inr (Or.inl (⟨rfl, NA, NB, A, B, yA, yB, WA, WB, pa, pb, x5, x6, x7, x8, rfl, ⟨⟨hB, kA, kB, hpa, hpb⟩, ⟨tA, tB⟩, hPP⟩, ho, hx, rfl⟩)))⟩
    · -- 175
      obtain ⟨⟨hB, kA, kB, hpa, hpb⟩, ⟨tA, tB⟩, hPP⟩ := hU
      obtain ⟨hMu, hphu, hRu, hqu⟩ := rf_UB_M hB hM hph hR2
      have eS : vr_S u g AR = vr_S s g AR := vr_UB_S hB hM
      have hVu : vr_G u g AR := vr_G_up hB.1.2.1 (rf_EG_refl _ _) hB.1.2.2.1 (fun _ _ => rfl) hV
      have hB0 := hB
      have u1 := hB.1.1
      have u71 := hB.2.1
      have u58 := hB.2.2.1
      have u70 := hRu.2.2.2.2.1
      have pA := rf_CL_b u1 kA
      have pB := rf_CL_b u1 kB
      have yA4 := kA.1.2.2.2
      have yB4 := kB.1.2.2.2
      have r58 := u1.fld 66 58 (by decide) rfl
      have r71 := u1.fld 66 71 (by decide) rfl
      have bu71 : u.1 66 71 + (((rf_qu u + 1) * (pa + pb) : Nat) : Int) ≤ 390000 := by rw [hqu]; exact rf_bud h71 (by omega) (by omega)
      have bu58 : u.1 66 58 + (((rf_qu u + 1) * (pa + pb) : Nat) : Int) ≤ 390000 := by rw [hqu]; exact rf_bud h58 (by omega) (by omega)
      have bv71 := rf_bud1 bu71
      have bv58 := rf_bud1 bu58
      obtain ⟨ja, ka, ua, fa, na, eA, a1, a2, a3, a4, a5, a6, a7, a8⟩ := rf_CL_node kA
      obtain ⟨jb, kb, ub, fb, nb, eB, b1, b2, b3, b4, b5, b6, b7, b8⟩ := rf_CL_node kB
      have hbya := rf_by_hi yA4.1
      have hbyb := rf_by_hi yB4.1
      have eKa : u.2.1 100 x5.toNat = ka.1 := by rw [a2]; exact a4
      have eRa : u.2.1 101 x5.toNat = ka.2 := by rw [a2]; exact a5
      have eKb : u.2.1 100 x7.toNat = kb.1 := by rw [b2]; exact b4
      have eRb : u.2.1 101 x7.toNat = kb.2 := by rw [b2]; exact b5
      have hka : ka.1 = 0 → (0 ≤ ka.2 ∧ ka.2 < u.1 66 58) ∧ kb.1 = 0 ∧ (0 ≤ kb.2 ∧ kb.2 < u.1 66 58) ∧ ∃ C D, x = rf_a C D := fun q => by
        rcases a8 with ⟨_, C, D, hx, hv, _⟩ | ⟨c, _⟩
        · rcases b8 with ⟨c, C', D', hx', hv', _⟩ | ⟨c, hx', _⟩
          · exact ⟨hv.1, c, hv'.1, C, D, hx⟩
          · rw [hx] at hx'
            cases hx'
        · exact absurd q c
      have hkbN : ka.1 ≠ 0 → kb.1 ≠ 0 := fun q c => by
        rcases a8 with ⟨z, _⟩ | ⟨_, hx, _⟩
        · exact q z
        · rcases b8 with ⟨_, C', D', hx', _⟩ | ⟨z, _⟩
          · rw [hx] at hx'
            cases hx'
          · exact z c
      have hkks : (ka.1 = 0 ∨ ka.1 = 1 ∨ ka.1 = 2 ∨ ka.1 = 3) ∧ (kb.1 = 0 ∨ kb.1 = 1 ∨ kb.1 = 2 ∨ kb.1 = 3) := by
        constructor
        · rcases a8 with ⟨c, _⟩ | ⟨_, _, w, hw, _⟩
          · exact Or.inl c
          · exact rf_Hn_k hw
        · rcases b8 with ⟨c, _⟩ | ⟨_, _, w, hw, _⟩
          · exact Or.inl c
          · exact rf_Hn_k hw
      refine w_unify_175 (lk := rf_look yA ka.2) (PV := fun z t => cx_I t ∧ cx_F [(66, 66), (106, 106)] u t ∧ z = u.1 66 58 ∧ t.1 66 58 = u.1 66 58 + 1 ∧ rf_f [58] u t ∧ rf_ag 106 106 (u.1 66 58) u t ∧ t.2.1 106 z.toNat = u.2.1 106 ka.2.toNat) (PN := fun z t z2 t2 => cx_I t2 ∧ cx_F [(66, 66), (115, 117)] t t2 ∧ z2 = t.1 66 71 ∧ t2.1 66 71 = t.1 66 71 + 1 ∧ rf_f [71] t t2 ∧ rf_ag 115 117 (t.1 66 71) t t2 ∧ rf_nm t2 z2 ka.2 z x6) (PO := fun z2 t2 z3 t3 => cx_I t3 ∧ cx_F [(66, 66), (115, 117)] t2 t3 ∧ z3 = t2.1 66 71 ∧ t3.1 66 71 = t2.1 66 71 + 1 ∧ rf_f [71] t2 t3 ∧ rf_ag 115 117 (t2.1 66 71) t2 t3 ∧ rf_nm t3 z3 kb.2 (u.1 66 58) x8) (PF := fun z t => vr_PU u t g AR z (pa + pb) (vr_E AR A yA B yB (u.1 66 58))) u1 pA pB (fun q => by have := (hka (by omega)).1; omega) ?_ ?_ ?_ ?_ ?_ ?_ ?_ ?_ ?_ ?_ ?_ ?_ ?_ ?_ ?_
      · intro k0 v hv K' hK'
        have hr := u1.arr 106 (by decide) rfl ka.2.toNat
        rw [eRa] at hv
        exact c_r_newVar hsL (d + 1) (by omega) v u K' u1 (by omega) (by omega) (fun z t c1 c2 c3 c4 c5 c6 c7 => hK' z t ⟨c1, c2, c3, c4, c5, c6, by rw [c7]; exact hv⟩)
      · rintro z t ⟨c1, _⟩
        exact c1
      · rintro k0 z t ⟨c1, c2, c3, c4, c5, c6, c7⟩ v hv K' hK'
        have c71 := c5 71 rfl
        have hk := hka (by omega)
        have hv2 : v = ka.2 := by rw [hv, (c2.same 101 rfl).2]; exact eRa
        rw [hv2]
        exact c_r_name hsL (d + 1) (by omega) ka.2 z x6 t K' c1 (by omega) (by omega) (by omega) (by omega) (fun z2 t2 f1 f2 f3 f4 f5 f6 f7 => hK' z2 t2 ⟨f1, f2, f3, f4, f5, f6, f7⟩)
      · rintro z t z2 t2 ⟨c1, _⟩
        exact c1
      · rintro k0 z t z2 t2 ⟨c1, c2, c3, c4, c5, c6, c7⟩ ⟨f1, f2, f3, f4, f5, f6, f7⟩ v hv K' hK'
        have c71 := c5 71 rfl
        have hk := hka (by omega)
        have hv2 : v = kb.2 := by rw [hv, (f2.same 101 rfl).2, (c2.same 101 rfl).2]; exact eRb
        rw [hv2]
        exact c_r_name hsL (d + 1) (by omega) kb.2 z x8 t2 K' f1 (by omega) (by omega) (by omega) (by omega) (fun z3 t3 i1 i2 i3 i4 i5 i6 i7 => hK' z3 t3 ⟨i1, i2, i3, i4, i5, i6, by rw [← c3]; exact i7⟩)
      · rintro k0 z t z2 t2 z3 t3 ⟨c1, c2, c3, c4, c5, c6, c7⟩ ⟨f1, f2, f3, f4, f5, f6, f7⟩ ⟨i1, i2, i3, i4, i5, i6, i7⟩ v w hv hw K' hK'
        obtain ⟨_, hk0, _, C, D, hx⟩ := hka (by omega)
        subst hx eA eB
        have hv2 : v = u.2.1 102 ja := by rw [hv, (c2.same 102 rfl).2, a2]
        have hw2 : w = u.2.1 102 jb := by rw [hw, (f2.same 102 rfl).2, (c2.same 102 rfl).2, b2]
        rw [hv2, hw2]
        exact vr_ut_lam ih u1 hMu hphu hRu hVu tA tB kA kB (by omega) hk0 (by omega) (by omega) bu71 bu58 i1 c2 c3 c4 c5 c6 c7 f2 f3 f4 f5 f6 f7 i2 i3 i4 i5 i6 (by rw [c3]; exact i7) hK'
      · intro h3 h3' heq K' hK'
        exact c_v_meet hsL (d + 1) (by omega) NA NB A B yA yB x WA WB pa pb (pa + pb) x5 x6 x7 x8 u g AR K' u1 hMu hphu hRu hVu tA tB kA kB h3 h3' heq (ho h3) hK'
      · intro h3 h3' hne K' hK'
        exact c_v_join hsL (d + 1) (by omega) NA NB A B yA yB x WA WB pa pb (pa + pb) x5 x6 x7 x8 u g AR K' u1 hMu hphu hRu hVu tA tB kA kB h3 h3' hne (ho h3) (ho2 h3') hK'
      · intro h3 h3' K' hK'
        exact c_v_bind hsL NA NB A B yA yB x WA WB pa pb (pa + pb) (d + 1) x5 x6 x7 x8 u g AR K' (by omega) u1 hMu hphu hRu hVu tA tB kA kB h3 h3' (ho h3) (by omega) (by omega) hK'
      · intro h3 h0 h3' K' hK'
        exact c_v_bind hsL NB NA B A yB yA x WB WA pb pa (pa + pb) (d + 1) x7 x8 x5 x6 u g AR K' (by omega) u1 hMu hphu hRu hVu tB tA kB kA h3' h3 (ho2 h3') (by omega) (by omega) (fun z t ht => hK' z t (vr_PU_sym u1 hVu ht))
      · rintro z t ⟨c1, _⟩
        exact c1
      · intro z t ht
        exact hK z t (vr_UB_PU hI hM hV hB (by omega) (fun th hS => by rw [u58]; exact hPP th hS) ht)
      · intro h2 v hv K' hK'
        rw [eRa] at hv
        rw [hv]
        have h101 := u1.arr 101 (by decide) rfl x5.toNat
        rw [eRa] at h101
        exact c_r_look hsL 100 (d + 1) (by omega) yA x6 ka.2 u K' u1 (by have := yA4.2.2.2; omega) yA4.1 h101 hK'
      · intro h2 h3'
        refine ⟨_, rf_lex1 (by decide), Or.inr (Or.inr (Or.inr (Or.inl (⟨rfl, NA, NB, A, B, yA, yB, WA, WB, pa, pb, x5, x6, x7, x8, _, rfl, ⟨⟨hB, kA, kB, hpa, hpb⟩, ⟨tA, tB⟩, hPP⟩, ?_, ?_, ?_, rfl⟩))))⟩
        · unfold rf_hv
          rw [if_pos h2, eRa]
        · exact Or.inr h2
        · have := hkbN (by omega)
          unfold rf_hk
          omega
      · intro h0 h2 h3 h3' v hv
        refine ⟨_, rf_lex1 (by decide), Or.inr (Or.inr (Or.inr (Or.inl (⟨rfl, NA, NB, A, B, yA, yB, WA, WB, pa, pb, x5, x6, x7, x8, v, rfl, ⟨⟨hB, kA, kB, hpa, hpb⟩, ⟨tA, tB⟩, hPP⟩, ?_, ?_, ?_, rfl⟩))))⟩
        · unfold rf_hv
          rw [if_neg h2]
          exact hv
        · unfold rf_hk
          omega
        · have := hkbN (by omega)
          unfold rf_hk
          omega
    · -- 403
      obtain ⟨⟨hB, kA, kB, hpa, hpb⟩, ⟨tA, tB⟩, hPP⟩ := hU
      obtain ⟨hMu, hphu, hRu, hqu⟩ := rf_UB_M hB hM hph hR2
      have eS : vr_S u g AR = vr_S s g AR := vr_UB_S hB hM
      have hVu : vr_G u g AR := vr_G_up hB.1.2.1 (rf_EG_refl _ _) hB.1.2.2.1 (fun _ _ => rfl) hV
      have u1 := hB.1.1
      have u70 := hRu.2.2.2.2.1
      have pA := rf_CL_b u1 kA
      have pB := rf_CL_b u1 kB
      have yB4 := kB.1.2.2.2
      refine w_unify_403 (lk := rf_look yB (u.2.1 101 x7.toNat)) u1 pA pB ?_ ?_ ?_
      · intro h2 v hv K' hK'
        rw [hv]
        exact c_r_look hsL 100 (d + 1) (by omega) yB x8 _ u K' u1 (by have := yB4.2.2.2; omega) yB4.1 (u1.arr 101 (by decide) rfl _) hK'
      · intro h2
        refine ⟨_, rf_lex2 (by omega), Or.inr (Or.inr (Or.inr (Or.inr (Or.inl (⟨rfl, NA, NB, A, B, yA, yB, WA, WB, pa, pb, x5, x6, x7, x8, x9, _, rfl, ⟨⟨hB, kA, kB, hpa, hpb⟩, ⟨tA, tB⟩, hPP⟩, hv, ?_, hk, hk2, rfl⟩)))))⟩
        unfold rf_hv
        rw [if_pos h2]
      · intro h2 v hvv
        refine ⟨_, rf_lex2 (by omega), Or.inr (Or.inr (Or.inr (Or.inr (Or.inl (⟨rfl, NA, NB, A, B, yA, yB, WA, WB, pa, pb, x5, x6, x7, x8, x9, v, rfl, ⟨⟨hB, kA, kB, hpa, hpb⟩, ⟨tA, tB⟩, hPP⟩, hv, ?_, hk, hk2, rfl⟩)))))⟩
        unfold rf_hv
        rw [if_neg h2]
        exact hvv
    · -- 439
      obtain ⟨⟨hB, kA, kB, hpa, hpb⟩, ⟨tA, tB⟩, hPP⟩ := hU
      obtain ⟨hMu, hphu, hRu, hqu⟩ := rf_UB_M hB hM hph hR2
      have eS : vr_S u g AR = vr_S s g AR := vr_UB_S hB hM
      have hVu : vr_G u g AR := vr_G_up hB.1.2.1 (rf_EG_refl _ _) hB.1.2.2.1 (fun _ _ => rfl) hV
      have u1 := hB.1.1
      have pA := rf_CL_b u1 kA
      have pB := rf_CL_b u1 kB
      have hpA : 1 ≤ pa := by
        have h1 := rf_wy_pos kA.2.2.2 hphu
        obtain ⟨ja, ka, ua, fa, na, eA, _⟩ := rf_CL_node kA
        subst eA
        have := rf_wh_pos (j := ja) (k := ka) (u := ua) (f := fa) (x := na)
        omega
      have hpB : 1 ≤ pb := by
        have h1 := rf_wy_pos kB.2.2.2 hphu
        obtain ⟨ja, ka, ua, fa, na, eA, _⟩ := rf_CL_node kB
        subst eA
        have := rf_wh_pos (j := ja) (k := ka) (u := ua) (f := fa) (x := na)
        omega
      have vtA := tA
      have vtB := tB
      obtain ⟨hx, hr9, wA, cA, tA⟩ := rf_hk_CL u1 kA hk hv hpA
      obtain ⟨_, hr10, wB, cB, tB⟩ := rf_hk_CL u1 kB hk2 hv2 hpB
      refine w_vunify_439 u1 pA pB hr9 hr10 ?_ ?_
      · intro hne
        refine hK 0 u (vr_PU_0 u1 hB.1.2.2.2 (fun th hS hp => hne ?_))
        have hp2 : vr_V th AR A yA (s.1 66 58) = vr_V th AR B yB (s.1 66 58) := (hPP th hS).mpr hp
        rw [(vr_hk_V kA hk hv vtA).2 th, (vr_hk_V kB hk2 hv2 vtB).2 th] at hp2
        obtain ⟨z1, z2, _⟩ := vx_n_eq hp2
        exact ⟨z1, z2⟩
      · intro hkk hxx v w hvv hww
        have hw : wA = wB := by
          rcases tA with ⟨z1, z2⟩ | ⟨z1, z2⟩
          · rcases tB with ⟨y1, y2⟩ | ⟨y1, y2⟩
            · rw [← hxx] at y2
              exact rf_vb_inj z2 y2
            · omega
          · rcases tB with ⟨y1, y2⟩ | ⟨y1, y2⟩
            · omega
            · rw [← hxx] at y2
              exact rf_ty_inj z2 y2
        subst hw
        have hUL0 : vr_UL s u g g AR AR (rf_fst A) (rf_fst B) yA yB P0 := by
          refine ⟨hVu, fun _ _ => rfl, ⟨(vr_hk_V (L := 0) kA hk hv vtA).1, (vr_hk_V (L := 0) kB hk2 hv2 vtB).1⟩, fun _ => ?_⟩
          rw [eS]
          have u58 := hB.2.2.1
          have key : ∀ th, vx_So (vr_S s g AR) th → (vr_XE AR (rf_fst A) yA (rf_fst B) yB (u.1 66 58) th ↔ P0 th) := fun th hS => by
            rw [← hPP th hS, u58]
            unfold vr_E vr_XE
            rw [(vr_hk_V kA hk hv vtA).2 th, (vr_hk_V kB hk2 hv2 vtB).2 th, hkk, hxx]
            constructor
            · intro q
              rw [q]
            · intro q
              exact (vx_n_eq q).2.2.1
          exact ⟨vx_le_refl _, fun th hT hr => (key th hT).mp hr, fun th hS hp => ⟨th, hS, vr_ag_refl _ _, (key th hS).mpr hp⟩⟩
        rw [← hww] at cA
        rw [← hvv] at cB
        exact ⟨_, rf_lex2 (by omega), Or.inr (Or.inr (Or.inr (Or.inr (Or.inr (⟨rfl, NA, NB, rf_fst A, rf_fst B, yA, yB, WA, WB, pa - 1, pb - 1, pa0 + pb0 - (pa + pb), wA, g, AR, x6, x8, v, w, rfl, ⟨rf_UL_0 hB hM hph hR2 _ (by omega), hUL0⟩, by omega, cA, cB, by omega, by omega, rfl⟩)))))⟩
    · -- 483
      have hL2 := hL
      obtain ⟨⟨l1, l2, l3, l4, l5⟩, ⟨l6, l6', l6''⟩, ⟨l7, l8⟩, ⟨l9, l10⟩, l11, l12⟩ := hL
      have rA := rf_nd_rng cA.1.1
      have rB := rf_nd_rng cB.1.1
      have ru := l1.fld 66 50 (by decide) rfl
      have nA := rf_CR_nil cA
      have nB := rf_CR_nil cB
      refine w_unify_483 (PF := fun z t => x12 ≠ -1 ∧ vr_PU u t g1 AR1 z (p1 + p2) (vr_E AR1 fa yA fb yB (u.1 66 58))) l1 (by omega) (by omega) (fun q c => q (nA.1.mpr (nA.2.mpr (nB.2.mp (nB.1.mp c))))) ?_ ?_ ?_ ?_ ?_ ?_
      · intro hx
        have ea := nA.1.mp hx
        have eb := nB.2.mpr (nA.2.mp ea)
        rw [ea, eb] at hLV
        exact hK 1 u (vr_UL_end hL2 he hLV)
      · intro hx K' hK'
        have hx2 : x11 ≠ -1 := fun c => hx (nA.1.mpr (nA.2.mpr (nB.2.mp (nB.1.mp c))))
        obtain ⟨C, D, e1, k1, n1, c1, i1, ja, ka, ua, ffa, za⟩ := rf_CR_cons cA hx
        obtain ⟨C', D', e2, k2, n2, c2, i2, jb, kb, ub, ffb, zb⟩ := rf_CR_cons cB hx2
        rw [e1] at e2
        cases e2
        have ta : vr_t u AR1 fa := by
          have := hLV.2.2.1.1
          rw [za] at this ⊢
          exact this.1
        have tb : vr_t u AR1 fb := by
          have := hLV.2.2.1.2
          rw [zb] at this ⊢
          exact this.1
        have ar : (rf_qu s - rf_qu u) * (p1 + p2) + (rf_qu u + 1) * (p1 + p2) = (rf_qu s + 1) * (p1 + p2) := by
          rw [← Nat.add_mul]
          congr 1
          omega
        have ar2 := rf_ar3 (e := e) (p' := p1 + p2) (p := pa0 + pb0) (M := rf_qu s + 1) he (by omega)
        exact ih NA NB fa fb yA yB C WA WB p1 p2 x12 x6 x11 x8 u g1 AR1 K' l1 l2 l6 l6' hLV.1 ta tb k1 k2 hp1 hp2 (by omega) (by omega) (fun z t ht => hK' z t ⟨hx, ht⟩)
      · rintro z t ⟨_, c1, c2, _⟩
        exact ⟨c2, c1⟩
      · rintro z t ⟨hx, c1, c2, c3, c0, _⟩ hz
        have hx2 : x11 ≠ -1 := fun c => hx (nA.1.mpr (nA.2.mpr (nB.2.mp (nB.1.mp c))))
        obtain ⟨C, D, e1, k1, n1, _, i1, ja, ka, ua, ffa, za⟩ := rf_CR_cons cA hx
        obtain ⟨C', D', e2, k2, n2, _, i2, jb, kb, ub, ffb, zb⟩ := rf_CR_cons cB hx2
        have hN := c0 hz
        rw [za, zb] at hN hLV
        exact hK 0 t (vr_PU_0 c2 (rf_FS_trans c3 l5) (vr_UL_no hLV hN))
      · rintro hx z t ⟨_, hP⟩ hz h70 a1 a2 v w ha1 ha2 hv hw
        have hx2 : x11 ≠ -1 := fun c => hx (nA.1.mpr (nA.2.mpr (nB.2.mp (nB.1.mp c))))
        obtain ⟨C, D, e1, k1, n1, c1, i1, j1, kk1, uu1, ff1, f1⟩ := rf_CR_cons cA hx
        obtain ⟨C', D', e2, k2, n2, c2, i2, j2, kk2, uu2, ff2, f2⟩ := rf_CR_cons cB hx2
        rw [e1] at e2
        cases e2
        obtain ⟨hUL, hE⟩ := rf_UL_b hI hL2 (vr_PU_rf hP) hz h70 ha1 ha2
        obtain ⟨o1, o2, o3⟩ := rf_back_f (a := a1) (b := a2) (t := t)
        have g71 : ((sx_uf (sx_uf t.1 66 71 a1) 66 58 a2, t.2) : sx_S).1 66 71 = u.1 66 71 := o2.trans ha1
        have g58 : ((sx_uf (sx_uf t.1 66 71 a1) 66 58 a2, t.2) : sx_S).1 66 58 = u.1 66 58 := o3.trans ha2
        have hv2 : v = u.2.1 103 x11.toNat := by rw [hv]; exact ((hE.2 x11.toNat).1 (by omega)).2.2.2.1
        have hw2 : w = u.2.1 103 x12.toNat := by rw [hw]; exact ((hE.2 x12.toNat).1 (by omega)).2.2.2.1
        have cA2 := rf_CR_up hE (by omega) (by omega) (rf_EG_refl u g1) l2.ub c1
        have cB2 := rf_CR_up hE (by omega) (by omega) (rf_EG_refl u g1) l2.ub c2
        rw [← hw2] at cA2
        rw [← hv2] at cB2
        subst f1
        subst f2
        have hULV := vr_UL_b (t := t) l1 l2 l3.1.2.1 hE ⟨rfl, o1 61 (by decide) (by decide)⟩ g58 hP hz h70 hLV
        exact ⟨_, rf_lex2 (by show rf_len n1 < rf_len n1 + 1; omega), Or.inr (Or.inr (Or.inr (Or.inr (Or.inr (⟨rfl, NA, NB, n1, n2, yA, yB, WA, WB, p1, p2, e, D, g1, AR1, x6, x8, v, w, rfl, ⟨hUL, hULV⟩, he, cA2, cB2, hp1, hp2, rfl⟩)))))⟩
      · rintro hx z t ⟨_, hP⟩ hz h70 v w hv hw
        have hx2 : x11 ≠ -1 := fun c => hx (nA.1.mpr (nA.2.mpr (nB.2.mp (nB.1.mp c))))
        obtain ⟨C, D, e1, k1, n1, c1, i1, j1, kk1, uu1, ff1, f1⟩ := rf_CR_cons cA hx
        obtain ⟨C', D', e2, k2, n2, c2, i2, j2, kk2, uu2, ff2, f2⟩ := rf_CR_cons cB hx2
        rw [e1] at e2
        cases e2
        obtain ⟨g2, AR2, hUL, hE, hG, g71, g58, hG2, hA2, hY2⟩ := vr_UL_m hL2 hP hz h70
        have hv2 : v = u.2.1 103 x11.toNat := by rw [hv]; exact ((hE.2 x11.toNat).1 (by omega)).2.2.2.1
        have hw2 : w = u.2.1 103 x12.toNat := by rw [hw]; exact ((hE.2 x12.toNat).1 (by omega)).2.2.2.1
        have cA2 := rf_CR_up hE g71 g58 hG l2.ub c1
        have cB2 := rf_CR_up hE g71 g58 hG l2.ub c2
        rw [← hw2] at cA2
        rw [← hv2] at cB2
        subst f1
        subst f2
        have hULV := vr_UL_n l1 l3.1.2.1 hE g58 hG2 hA2 hY2 (vr_rngR c1 hLV.2.2.1.1.2) (vr_rngR c2 hLV.2.2.1.2.2) hLV
        exact ⟨_, rf_lex2 (by show rf_len n1 < rf_len n1 + 1; omega), Or.inr (Or.inr (Or.inr (Or.inr (Or.inr (⟨rfl, NA, NB, n1, n2, yA, yB, WA, WB, p1, p2, e, D, g2, AR2, x6, x8, v, w, rfl, ⟨hUL, hULV⟩, he, cA2, cB2, hp1, hp2, rfl⟩)))))⟩
theorem c_v_unify {sL : Nat} {sx : Nat → Int32} (hsL : sL ≤ 3072) : ∀ P d : Nat, P + 150 ≤ d → vr_UT sL sx P d
  | 0, d, _ => by
    intro NA NB A B yA yB x WA WB pa pb a ba b bb s g AR K hI hM hph hR _ _ _ k _ hp
    obtain ⟨j, kk, uu, f, n, eA, _⟩ := rf_CL_node k
    subst eA
    have hpp := rf_wy_pos k.2.2.2 hph
    have hw1 := rf_wh_pos (j := j) (k := kk) (u := uu) (f := f) (x := n)
    omega
  | P + 1, d, hd => by
    obtain ⟨d, rfl⟩ : ∃ e, d = e + 2 := ⟨d - 2, by omega⟩
    exact vr_ut_ok hsL (by omega) (c_v_unify hsL P (d + 1) (by omega))
end
section
/-! ===== the values of long forms ===== -/
def vq_lm : Nat → rf_N → rf_N
  | 0, T => T
  | n + 1, T => rf_n 0 0 0 (vq_lm n T) .leaf
/-- the ARGs that a type wants, variables from i on, M bound around -/
def vq_row : rf_T → Int → Int → rf_N
  | .leaf, _, _ => .leaf
  | .inner _ _ _ A B, i, M => vx_sb (vq_lm (rf_args A).length (rf_n 0 2 i (vq_row A M (M + ((rf_args A).length : Int))) .leaf)) (vq_row B (i + 1) M)
/-- the long form of a variable n -/
def vq_cv (A : rf_T) (n L : Int) : rf_N := vq_lm (rf_args A).length (rf_n 0 2 n (vq_row A L (L + ((rf_args A).length : Int))) .leaf)
theorem vq_row_in (z : Nat) (u v : Unit) (A B : rf_T) (i M : Int) : vq_row (.inner z u v A B) i M = vx_sb (vq_cv A i M) (vq_row B (i + 1) M) := rfl
def vq_rl : List rf_T → List Int → Int → rf_N
  | A :: As, n :: ns, M => vx_sb (vq_cv A n M) (vq_rl As ns M)
  | _, _, _ => .leaf
/-- what is bound: us, from L on -/
def vq_up : List Int → Int → (Int → Int) → Int → Int
  | [], _, e => e
  | u :: us, L, e => vq_up us (L + 1) (vx_up e u L)
theorem vq_lm_on {T : rf_N} (h : vx_on T) : ∀ n, vx_on (vq_lm n T)
  | 0 => h
  | _ + 1 => ⟨0, 0, _, rfl⟩
theorem vq_cv_on (A : rf_T) (n L : Int) : vx_on (vq_cv A n L) := vq_lm_on ⟨2, n, _, rfl⟩ _
theorem vq_up_no {w : Int} : ∀ {us : List Int} {L : Int} {e : Int → Int}, w ∉ us → vq_up us L e w = e w
  | [], _, _, _ => rfl
  | u :: us, L, e, h => by
    have h1 : w ≠ u := fun q => h (by rw [q]; exact List.mem_cons_self)
    show vq_up us (L + 1) (vx_up e u L) w = e w
    rw [vq_up_no (fun q => h (List.mem_cons_of_mem _ q))]
    unfold vx_up
    rw [if_neg h1]
theorem vq_up_at : ∀ {us : List Int} {L : Int} {e : Int → Int} {i : Nat} {w : Int}, us.Nodup → us[i]? = some w → vq_up us L e w = L + (i : Int)
  | [], _, _, _, _, _, h => by simp at h
  | u :: us, L, e, 0, w, hn, h => by
    have hw : u = w := by simpa using h
    have hn' := (List.nodup_cons.mp hn).1
    show vq_up us (L + 1) (vx_up e u L) w = _
    rw [vq_up_no (by rw [← hw]; exact hn')]
    unfold vx_up
    rw [if_pos hw.symm]
    show L = L + 0
    omega
  | u :: us, L, e, i + 1, w, hn, h => by
    rw [List.getElem?_cons_succ] at h
    show vq_up us (L + 1) (vx_up e u L) w = _
    rw [vq_up_at (List.nodup_cons.mp hn).2 h]
    push_cast
    omega
theorem vq_up_map {us : List Int} (hn : us.Nodup) (L : Int) (e : Int → Int) : ∀ k : Nat, k < us.length → (us.map (vq_up us L e))[k]? = some (L + (k : Int)) := fun k hk => by
  rw [List.getElem?_map, List.getElem?_eq_getElem hk]
  show some (vq_up us L e us[k]) = _
  rw [vq_up_at hn (List.getElem?_eq_getElem hk)]
theorem vq_rl_row : ∀ (x : rf_T) (i M : Int) (ns : List Int), ns.length = (rf_args x).length → (∀ k : Nat, k < ns.length → ns[k]? = some (i + (k : Int))) → vq_rl (rf_args x) ns M = vq_row x i M
  | .leaf, _, _, [], _, _ => rfl
  | .leaf, _, _, _ :: _, h, _ => by simp [rf_args] at h
  | .inner _ _ _ A B, _, _, [], h, _ => by simp [rf_args] at h
  | .inner _ _ _ A B, i, M, n :: ns, h, hk => by
    have h0 := hk 0 (Nat.succ_pos _)
    have e0 : n = i := by
      have : some n = some (i + ((0 : Nat) : Int)) := h0
      have := Option.some.inj this
      omega
    have ih := vq_rl_row B (i + 1) M ns (by simpa [rf_args] using h) (fun k hk' => by
      have := hk (k + 1) (by rw [List.length_cons]; omega)
      rw [List.getElem?_cons_succ] at this
      rw [this]
      congr 1
      push_cast
      omega)
    rw [vq_row_in, ← ih, e0]
    rfl
theorem vq_sb_snoc {a X : rf_N} (h : vx_on a) : rf_snoc a X = vx_sb a X := by
  obtain ⟨k, h, F, rfl⟩ := h
  rfl
theorem vq_rl_snoc {A : rf_T} {n M : Int} : ∀ {As : List rf_T} {ns : List Int}, As.length = ns.length → vq_rl (As ++ [A]) (ns ++ [n]) M = rf_snoc (vq_rl As ns M) (vq_cv A n M)
  | [], [], _ => by
    show vx_sb (vq_cv A n M) .leaf = vq_cv A n M
    exact vx_sb_leaf (vq_cv_on A n M)
  | [], _ :: _, h => by cases h
  | _ :: _, [], h => by cases h
  | B :: As, m :: ns, h => by
    have ih := vq_rl_snoc (A := A) (n := n) (M := M) (As := As) (ns := ns) (by simpa using h)
    show vx_sb (vq_cv B m M) (vq_rl (As ++ [A]) (ns ++ [n]) M) = rf_snoc (vx_sb (vq_cv B m M) (vq_rl As ns M)) (vq_cv A n M)
    rw [ih, vx_sb_snoc (vq_cv_on B m M)]
/-! what counts of them is all -/
theorem vq_c_snoc (g : rf_N) : ∀ f : rf_N, vr_c (rf_snoc f g) = rf_snoc (vr_c f) (vr_c g)
  | .leaf => rfl
  | .inner j q u f x => by
    show (.inner j q () (vr_f q.1 f) (vr_c (rf_snoc x g)) : rf_N) = .inner j q () (vr_f q.1 f) (rf_snoc (vr_c x) (vr_c g))
    rw [vq_c_snoc g x]
theorem vq_1_c {n : rf_N} (h : vr_1 n = n) : vr_c n = n := by
  cases n with
  | leaf => rfl
  | inner j q u f x =>
    rw [vr_1_in] at h
    injection h with _ _ _ h4 h5
    rw [vr_c_in, h4, ← h5]
    rfl
theorem vq_1_ch {T : rf_N} (h : vr_1 T = T) : ∀ C : List (Nat × Int), vr_1 (rf_ch C T) = rf_ch C T
  | [] => h
  | c :: C => by
    show (.inner c.1 (0, c.2) () (vr_f 0 (rf_ch C T)) .leaf : rf_N) = .inner c.1 (0, c.2) () (rf_ch C T) .leaf
    rw [vr_f_0 rfl, vq_1_ch h C]
/-- a row of long forms of us; one of u -/
def vq_g (As : List rf_T) (us : List Int) (g : rf_N) : Prop := As.length = us.length ∧ vr_c g = g ∧ ∀ (th : Int → rf_N) (AR : Nat → List Int) (e : Int → Int) (M : Int), (∀ m, vx_on (th m)) → vx_val th AR g e M = vq_rl As (us.map e) M
def vq_n (A : rf_T) (u : Int) (n : rf_N) : Prop := vr_1 n = n ∧ ∀ (th : Int → rf_N) (AR : Nat → List Int) (e : Int → Int) (M : Int), (∀ m, vx_on (th m)) → vx_val th AR n e M = vq_cv A (e u) M
theorem vq_g_0 : vq_g [] [] .leaf := ⟨rfl, rfl, fun _ _ _ _ _ => rfl⟩
theorem vq_g_s {As : List rf_T} {us : List Int} {g : rf_N} {A : rf_T} {u : Int} {n : rf_N} (h : vq_g As us g) (hn : vq_n A u n) : vq_g (As ++ [A]) (us ++ [u]) (rf_snoc g n) := by
  obtain ⟨h1, h3, h2⟩ := h
  refine ⟨by rw [List.length_append, List.length_append, h1]; rfl, by rw [vq_c_snoc, h3, vq_1_c hn.1], fun th AR e M hg => ?_⟩
  rw [vx_val_snoc hg, h2 th AR e M hg, hn.2 th AR e M hg, List.map_append]
  exact (vq_rl_snoc (by rw [List.length_map, h1])).symm
theorem vq_ch {th : Int → rf_N} {AR : Nat → List Int} {T : rf_N} : ∀ {C : List (Nat × Int)} {e : Int → Int} {L : Int}, vx_val th AR (rf_ch C T) e L = vq_lm C.length (vx_val th AR T (vq_up (C.map Prod.snd) L e) (L + (C.length : Int)))
  | [], e, L => by
    show vx_val th AR T e L = vx_val th AR T e (L + ((0 : Nat) : Int))
    rw [show L + ((0 : Nat) : Int) = L by omega]
  | c :: C, e, L => by
    have ih := vq_ch (th := th) (AR := AR) (T := T) (C := C) (e := vx_up e c.2 L) (L := L + 1)
    show vx_val th AR (rf_n c.1 0 c.2 (rf_ch C T) .leaf) e L = _
    rw [vx_val_in, if_pos rfl]
    show rf_n 0 0 0 (vx_val th AR (rf_ch C T) (vx_up e c.2 L) (L + 1)) .leaf = rf_n 0 0 0 (vq_lm C.length (vx_val th AR T (vq_up (C.map Prod.snd) (L + 1) (vx_up e c.2 L)) (L + ((C.length + 1 : Nat) : Int)))) .leaf
    rw [ih, show L + 1 + (C.length : Int) = L + ((C.length + 1 : Nat) : Int) by push_cast; omega]
/-- an unknown's node stands in it -/
def vq_oc : rf_N → Nat → Int → Prop
  | .leaf, _, _ => False
  | .inner j k _ f x, i, m => (k.1 = 3 ∧ j = i ∧ k.2 = m) ∨ vq_oc f i m ∨ vq_oc x i m
theorem vq_oc_ch {T : rf_N} {i : Nat} {m : Int} (h : vq_oc T i m) : ∀ C : List (Nat × Int), vq_oc (rf_ch C T) i m
  | [] => h
  | _ :: C => Or.inr (Or.inl (vq_oc_ch h C))
theorem vq_oc_sn {g : rf_N} {i : Nat} {m : Int} : ∀ {f : rf_N}, vq_oc f i m → vq_oc (rf_snoc f g) i m
  | .leaf, h => h.elim
  | .inner _ _ _ _ _, h => by
    rcases h with h | h | h
    · exact Or.inl h
    · exact Or.inr (Or.inl h)
    · exact Or.inr (Or.inr (vq_oc_sn h))
/-- what close makes of a head (k, h) with ARGs f0; of an unknown with the variables vs -/
def vq_z (x : rf_T) (k h : Int) (f0 : rf_N) (i0 : Int) (n : rf_N) : Prop := ∃ us : List Int, us.length = (rf_args x).length ∧ us.Nodup ∧ (∀ c ∈ us, i0 ≤ c) ∧ (vr_c f0 = f0 → vr_1 n = n) ∧ (∀ i m, vq_oc f0 i m → vq_oc n i m) ∧ ∀ (th : Int → rf_N) (AR : Nat → List Int) (e : Int → Int) (L : Int), (∀ m, vx_on (th m)) → vx_val th AR n e L = vq_lm us.length (rf_n 0 k (if k = 2 then vq_up us L e h else h) (rf_snoc (vx_val th AR f0 (vq_up us L e) (L + (us.length : Int))) (vq_row x L (L + (us.length : Int)))) .leaf)
def vq_y (x : rf_T) (h : Int) (vs : List Int) (i0 : Int) (j : Nat) (ws : List Int) (n : rf_N) : Prop := ∃ us : List Int, us.length = (rf_args x).length ∧ us.Nodup ∧ (∀ c ∈ us, i0 ≤ c) ∧ ws = vs ++ us ∧ vr_1 n = n ∧ vq_oc n j h ∧ ∀ (th : Int → rf_N) (AR : Nat → List Int) (e : Int → Int) (L : Int), (∀ m, vx_on (th m)) → AR j = ws → vx_val th AR n e L = vq_lm us.length (vx_re (vx_ix (ws.map (vq_up us L e)) (L + (us.length : Int))) (th h))
theorem vq_z_mk {x : rf_T} {i : Nat} {k h : Int} {f0 g : rf_N} {i0 : Int} {C : List (Nat × Int)} (k0 : k ≠ 0) (k3 : k ≠ 3) (hg : vq_g (rf_args x) (C.map Prod.snd) g) (hn : (C.map Prod.snd).Nodup) (hi : ∀ c ∈ C.map Prod.snd, i0 ≤ c) : vq_z x k h f0 i0 (rf_ch C (rf_n i k h (rf_snoc f0 g) .leaf)) := by
  obtain ⟨h1, h0, h2⟩ := hg
  have hl : (C.map Prod.snd).length = C.length := List.length_map _
  refine ⟨C.map Prod.snd, h1.symm, hn, hi, fun q => vq_1_ch (T := rf_n i k h (rf_snoc f0 g) .leaf) (by
    show (.inner i (k, h) () (vr_f k (rf_snoc f0 g)) .leaf : rf_N) = .inner i (k, h) () (rf_snoc f0 g) .leaf
    unfold vr_f
    rw [if_neg k0, if_neg k3, vq_c_snoc, q, h0]) C, fun a b q => vq_oc_ch (show vq_oc (rf_n i k h (rf_snoc f0 g) .leaf) a b from Or.inr (Or.inl (vq_oc_sn q))) C, fun th AR e L hon => ?_⟩
  rw [vq_ch, hl, vx_val_in, if_neg k0, if_neg k3, vx_val_snoc hon, h2 th AR _ _ hon, vq_rl_row x L (L + (C.length : Int)) _ (by rw [List.length_map, h1]) (fun q hq => vq_up_map hn L e q (by rw [List.length_map] at hq; exact hq))]
  rfl
theorem vq_y_mk {x : rf_T} {i : Nat} {h : Int} {F : rf_N} {vs ws : List Int} {i0 : Int} {C : List (Nat × Int)} (hl : C.length = (rf_args x).length) (hn : (C.map Prod.snd).Nodup) (hi : ∀ c ∈ C.map Prod.snd, i0 ≤ c) (hw : ws = vs ++ C.map Prod.snd) (hF : F = .leaf) : vq_y x h vs i0 i ws (rf_ch C (rf_n i 3 h F .leaf)) := by
  have hl' : (C.map Prod.snd).length = C.length := List.length_map _
  refine ⟨C.map Prod.snd, by rw [hl', hl], hn, hi, hw, vq_1_ch (T := rf_n i 3 h F .leaf) (by rw [hF]; rfl) C, vq_oc_ch (show vq_oc (rf_n i 3 h F .leaf) i h from Or.inl ⟨rfl, rfl, rfl⟩) C, fun th AR e L hon ha => ?_⟩
  rw [vq_ch, hl', vx_call hon, ha]
theorem vq_n_mk {A : rf_T} {v : Int} {i0 : Int} {n : rf_N} (h : vq_z A 2 v .leaf i0 n) (hv : v < i0) : vq_n A v n := by
  obtain ⟨us, h1, h2, h3, h5, _, h4⟩ := h
  refine ⟨h5 rfl, fun th AR e L hon => ?_⟩
  rw [h4 th AR e L hon, if_pos rfl, vq_up_no (fun q => by have := h3 v q; omega), h1]
  rfl
/-! the long forms of 66a -/
theorem vq_c1 {TV : Int → qx_T → Prop} : ∀ {x : qx_T} {W : rf_N} {k h : Int} {F : rf_N} {ρ : List Int}, k ≠ 0 → k ≠ 3 → vl_c1 TV x W k h F ρ → ∃ us : List Int, us.length = (rf_args (qx_sh x)).length ∧ us.Nodup ∧ (∀ c ∈ us, c ∉ ρ) ∧ ∀ (th : Int → rf_N) (AR : Nat → List Int) (e : Int → Int) (L : Int), (∀ m, vx_on (th m)) → vx_val th AR W e L = vq_lm us.length (rf_n 0 k (if k = 2 then vq_up us L e h else h) (rf_snoc (vx_val th AR F (vq_up us L e) (L + (us.length : Int))) (vq_row (qx_sh x) L (L + (us.length : Int)))) .leaf)
  | .leaf, W, k, h, F, ρ, k0, k3, hh => by
    obtain ⟨j, rfl⟩ := hh
    refine ⟨[], rfl, List.nodup_nil, fun c hc => absurd hc List.not_mem_nil, fun th AR e L hon => ?_⟩
    rw [vx_val_in, if_neg k0, if_neg k3]
    show rf_n 0 k _ _ _ = rf_n 0 k (if k = 2 then e h else h) (rf_snoc (vx_val th AR F e (L + ((0 : Nat) : Int))) .leaf) .leaf
    rw [rf_snoc_leaf, show L + ((0 : Nat) : Int) = L by omega]
    rfl
  | .inner n b u x y, W, k, h, F, ρ, k0, k3, hh => by
    rcases hh with ⟨hb, j, rfl⟩ | ⟨⟨hb, hn⟩, j, v, g, W', rfl, ⟨v1, v2, v3⟩, sg, c1, c2⟩
    · subst hb
      refine ⟨[], rfl, List.nodup_nil, fun c hc => absurd hc List.not_mem_nil, fun th AR e L hon => ?_⟩
      rw [vx_val_in, if_neg k0, if_neg k3]
      show rf_n 0 k _ _ _ = rf_n 0 k (if k = 2 then e h else h) (rf_snoc (vx_val th AR F e (L + ((0 : Nat) : Int))) .leaf) .leaf
      rw [rf_snoc_leaf, show L + ((0 : Nat) : Int) = L by omega]
      rfl
    · subst hb
      obtain ⟨ug, g1, g2, g3, g4⟩ := vq_c1 (by decide) (by decide) c1
      obtain ⟨us, s1, s2, s3, s4⟩ := vq_c1 k0 k3 c2
      have hgn : ∀ (th : Int → rf_N) (AR : Nat → List Int) (e : Int → Int) (M : Int), (∀ m, vx_on (th m)) → vx_val th AR g e M = vq_cv (qx_sh x) (e v) M := fun th AR e L hon => by
        rw [g4 th AR e L hon, if_pos rfl, vq_up_no (fun q => g3 v q List.mem_cons_self), g1]
        rfl
      have hvu : v ∉ us := fun q => s3 v q List.mem_cons_self
      refine ⟨v :: us, ?_, List.nodup_cons.mpr ⟨hvu, s2⟩, fun c hc q => ?_, fun th AR e L hon => ?_⟩
      · show us.length + 1 = (rf_args (rf_a (qx_sh x) (qx_sh y))).length
        rw [s1]
        rfl
      · rcases List.mem_cons.mp hc with rfl | hc
        · exact v1 q
        · exact s3 c hc (List.mem_cons_of_mem _ q)
      · rw [vx_val_in, if_pos rfl]
        show rf_n 0 0 0 (vx_val th AR W' (vx_up e v L) (L + 1)) .leaf = rf_n 0 0 0 (vq_lm us.length (rf_n 0 k (if k = 2 then vq_up us (L + 1) (vx_up e v L) h else h) (rf_snoc (vx_val th AR F (vq_up us (L + 1) (vx_up e v L)) (L + ((us.length + 1 : Nat) : Int))) (vx_sb (vq_cv (qx_sh x) L (L + ((us.length + 1 : Nat) : Int))) (vq_row (qx_sh y) (L + 1) (L + ((us.length + 1 : Nat) : Int))))) .leaf)) .leaf
        rw [s4 th AR (vx_up e v L) (L + 1) hon, show L + 1 + (us.length : Int) = L + ((us.length + 1 : Nat) : Int) by push_cast; omega, vx_val_snoc hon, hgn th AR _ _ hon, vq_up_no hvu, rf_snoc_assoc, vq_sb_snoc (vq_cv_on _ _ _)]
        have e1 : vx_up e v L v = L := if_pos rfl
        rw [e1]
theorem vq_c3 {TV : Int → qx_T → Prop} {AR : Nat → List Int} : ∀ {x : qx_T} {W : rf_N} {h : Int} {vs ρ : List Int}, vl_c3 TV AR x W h vs ρ → ∃ us : List Int, us.length = (rf_args (qx_sh x)).length ∧ us.Nodup ∧ (∀ c ∈ us, c ∉ ρ) ∧ ∀ (th : Int → rf_N) (e : Int → Int) (L : Int), (∀ m, vx_on (th m)) → vx_val th AR W e L = vq_lm us.length (vx_re (vx_ix ((vs ++ us).map (vq_up us L e)) (L + (us.length : Int))) (th h))
  | .leaf, W, h, vs, ρ, hh => by
    obtain ⟨j, F, rfl, ha⟩ := hh
    refine ⟨[], rfl, List.nodup_nil, fun c hc => absurd hc List.not_mem_nil, fun th e L hon => ?_⟩
    rw [vx_call hon, ha, List.append_nil]
    show _ = vx_re (vx_ix (vs.map e) (L + ((0 : Nat) : Int))) (th h)
    rw [show L + ((0 : Nat) : Int) = L by omega]
  | .inner n b u x y, W, h, vs, ρ, hh => by
    rcases hh with ⟨hb, j, F, rfl, ha⟩ | ⟨⟨hb, hn⟩, j, v, W', rfl, ⟨v1, v2, v3⟩, c2⟩
    · subst hb
      refine ⟨[], rfl, List.nodup_nil, fun c hc => absurd hc List.not_mem_nil, fun th e L hon => ?_⟩
      rw [vx_call hon, ha, List.append_nil]
      show _ = vx_re (vx_ix (vs.map e) (L + ((0 : Nat) : Int))) (th h)
      rw [show L + ((0 : Nat) : Int) = L by omega]
    · subst hb
      obtain ⟨us, s1, s2, s3, s4⟩ := vq_c3 c2
      have hvu : v ∉ us := fun q => s3 v q List.mem_cons_self
      refine ⟨v :: us, ?_, List.nodup_cons.mpr ⟨hvu, s2⟩, fun c hc q => ?_, fun th e L hon => ?_⟩
      · show us.length + 1 = (rf_args (rf_a (qx_sh x) (qx_sh y))).length
        rw [s1]
        rfl
      · rcases List.mem_cons.mp hc with rfl | hc
        · exact v1 q
        · exact s3 c hc (List.mem_cons_of_mem _ q)
      · rw [vx_val_in, if_pos rfl]
        show rf_n 0 0 0 (vx_val th AR W' (vx_up e v L) (L + 1)) .leaf = rf_n 0 0 0 (vq_lm us.length (vx_re (vx_ix ((vs ++ v :: us).map (vq_up us (L + 1) (vx_up e v L))) (L + ((us.length + 1 : Nat) : Int))) (th h))) .leaf
        rw [s4 th (vx_up e v L) (L + 1) hon, show L + 1 + (us.length : Int) = L + ((us.length + 1 : Nat) : Int) by push_cast; omega, List.append_assoc]
        rfl
end
section
/-! ===== the reference: close and longVar, with the values of what they make ===== -/
def vq_J (x1 : Int) (k : Int × Int) (f0 : rf_N) (x : rf_T) (u : sx_S) (x3 x4 : Int) (y ye : rf_T) (i0 : Int) (pe vs : List Int) (ib : Int) : Prop := ∃ (C : List (Nat × Int)) (f : rf_N), rf_no u (.inner x1.toNat k () f .leaf) x1 ∧ (rf_idx (.inner x1.toNat k () f .leaf)).Nodup ∧ (∀ j ∈ rf_idx (.inner x1.toNat k () f .leaf), x1 ≤ (j : Int)) ∧ ((C = [] ∧ x3 = -1) ∨ (C ≠ [] ∧ rf_no u (rf_ch C .leaf) x3 ∧ x4 = (rf_cl C 0 : Int))) ∧ (C.map Prod.fst).Nodup ∧ (∀ j ∈ C.map Prod.fst, j ∉ rf_idx (.inner x1.toNat k () f .leaf) ∧ x1 ≤ (j : Int) ∧ (j : Int) < u.1 66 50) ∧ rf_ct u C x y ∧ (((k.1 = 1 ∨ k.1 = 2) ∧ ∃ w, rf_H u x1.toNat k.1 k.2 w ∧ (rf_gt (rf_H u) rf_P f).2 w ye) ∨ (k.1 = 3 ∧ f = .leaf ∧ rf_mp u x1.toNat k.2 ye (u.1 66 56))) ∧ (C.length + 1 + (rf_wh f).2 + 2 * rf_at y ≤ 2 * rf_at x + 1 + (rf_wh f0).2 ∧ C.length + rf_at ye ≤ rf_at x + 1) ∧ (∀ m, (rf_oc f).2 m ↔ (rf_oc f0).2 m) ∧ ((k.1 ≠ 3 → ∃ us g, C.map Prod.snd = us ++ pe ∧ f = rf_snoc f0 g ∧ (rf_lf2 g).2 us ∧ (rf_sc rf_G0 g).2 us ∧ ∃ As, rf_args x = As ++ rf_args ye ∧ vq_g As us g) ∧ (∀ c ∈ C.map Prod.snd, i0 ≤ c ∧ c < ib) ∧ (C.map Prod.snd).Nodup ∧ (k.1 = 3 → rf_rv u x1 ++ pe = vs ++ C.map Prod.snd))
section VQJ
variable {x1 : Int} {k : Int × Int} {f0 : rf_N} {x : rf_T} {u t : sx_S} {x3 x4 : Int} {y ye A B : rf_T} {i0 ib : Int} {pe vs : List Int}
theorem vq_J_up (h : vq_J x1 k f0 x u x3 x4 y ye i0 pe vs ib) (ha : rf_ag 100 103 (u.1 66 50) u t) (hx : rf_xu u t) (h56 : t.1 66 56 = u.1 66 56) : vq_J x1 k f0 x t x3 x4 y ye i0 pe vs ib := by
  obtain ⟨C, f, a1, a2, a3, a4, a5, a6, a7, a8, a9, a10, a11⟩ := h
  have hn := (hx.2 0).1.2.2.1
  have hlt := rf_nd_lt a1 x1.toNat List.mem_cons_self
  have a1' := a1
  obtain ⟨_, _, af, _⟩ := a1'
  refine ⟨C, f, rf_no_up ha hn a1, a2, a3, a4.imp id (fun q => ⟨q.1, rf_no_up ha hn q.2.1, q.2.2⟩), a5, fun j hj => ⟨(a6 j hj).1, (a6 j hj).2.1, by have := (a6 j hj).2.2; omega⟩, rf_ct_up hx a7, ?_, a9, a10, ⟨a11.1, a11.2.1, a11.2.2.1, fun q => by
    rcases a8 with ⟨b1, _⟩ | ⟨_, _, xx, c, _⟩
    · omega
    · rw [rf_rv_up hx h56 hlt c.2.2.1]
      exact a11.2.2.2 q⟩⟩
  rcases a8 with ⟨b1, w, b2, b3⟩ | ⟨b1, b2, b3⟩
  · exact Or.inl ⟨b1, w, rf_H_up hx hlt b2, (rf_gt_up hx af).2 _ _ b3⟩
  · refine Or.inr ⟨b1, b2, ?_⟩
    rw [h56]
    exact rf_mp_up hx hlt b3
theorem vq_J_ib {ib' : Int} (h : vq_J x1 k f0 x u x3 x4 y ye i0 pe vs ib) (hb : ib ≤ ib') : vq_J x1 k f0 x u x3 x4 y ye i0 pe vs ib' := by
  obtain ⟨C, f, a1, a2, a3, a4, a5, a6, a7, a8, a9, a10, a11⟩ := h
  exact ⟨C, f, a1, a2, a3, a4, a5, a6, a7, a8, a9, a10, a11.1, fun c hc => ⟨(a11.2.1 c hc).1, by have := (a11.2.1 c hc).2; omega⟩, a11.2.2⟩
theorem vq_J_lam1 {z6 z7 : Int} (h : vq_J x1 k f0 x t (-1) x4 (rf_a A B) (rf_a A B) i0 [] vs ib) (hz6 : i0 ≤ z6) (hib : ib ≤ z6) (hz : 0 ≤ z7 ∧ z7 + 1 = t.1 66 50) (hm : rf_mk t z7 0 z6) (hv : rf_vt t z6 A) (hz1 : x1 ≤ z7) (hfr : ∀ f, rf_no t (.inner x1.toNat k () f .leaf) x1 → z7.toNat ∉ rf_idx (.inner x1.toNat k () f .leaf)) : vq_J x1 k f0 x t z7 z7 B (rf_a A B) i0 [z6] vs (z6 + 1) := by
  obtain ⟨C, f, a1, a2, a3, a4, a5, a6, a7, a8, a9, a10, a11⟩ := h
  obtain ⟨m1, m2, m3, m4⟩ := hm trivial
  have hC : C = [] := by
    rcases a4 with ⟨q, _⟩ | ⟨_, q, _⟩
    · exact q
    · cases C with
      | nil => rfl
      | cons c l =>
        have := q.1.1
        omega
  subst hC
  have hl := rf_ct_len a7
  have hA := rf_at_pos A
  have e : rf_at (rf_a A B) = rf_at A + rf_at B := rfl
  refine ⟨[(z7.toNat, z6)], f, a1, a2, a3, Or.inr ⟨(fun q => by cases q), ⟨⟨by omega, by omega⟩, ⟨m1, m2⟩, m3, m4⟩, ?_⟩, by simp, ?_, rf_ct_snoc (C := []) hv a7, a8, ?_, a10, ⟨fun q1 => ?_, fun c hc => (by have ec : c = z6 := (by simpa using hc); rw [ec]; exact ⟨hz6, by omega⟩), by simp, fun q => ?_⟩⟩
  · show z7 = ((z7.toNat : Nat) : Int)
    omega
  · intro j hj
    have ej : j = z7.toNat := by simpa using hj
    subst ej
    exact ⟨hfr f a1, by omega, by omega⟩
  · simp only [List.length_nil, List.length_cons] at a9 hl ⊢
    omega
  · obtain ⟨us, g, e1, e2⟩ := a11.1 q1
    have e3 : us = [] := by simpa using e1.symm
    subst e3
    exact ⟨[], g, rfl, e2⟩
  · have := a11.2.2.2 q
    rw [List.append_nil] at this
    rw [this]
    simp
theorem vq_J_lam2 {z6 z7 : Int} {Bs : (Nat → Nat → Int) × Nat} (h : vq_J x1 k f0 x t x3 x4 (rf_a A B) (rf_a A B) i0 [] vs ib) (hz6 : i0 ≤ z6) (hib : ib ≤ z6) (h3 : x3 ≠ -1) (hz : 0 ≤ z7 ∧ z7 + 1 = t.1 66 50) (hm : rf_mk t z7 0 z6) (hv : rf_vt t z6 A) (hz1 : x1 ≤ z7) (hfr : ∀ n i, rf_no t n i → i ≠ z7 → (∀ j ∈ rf_idx n, (j : Int) ≠ z7) ∨ True) (hfr1 : ∀ f, rf_no t (.inner x1.toNat k () f .leaf) x1 → z7.toNat ∉ rf_idx (.inner x1.toNat k () f .leaf)) (hfr2 : ∀ C : List (Nat × Int), rf_no t (rf_ch C .leaf) x3 → z7.toNat ∉ C.map Prod.fst) (hxu : rf_xu t (t.1, sx_ua t.2.1 102 x4.toNat z7, Bs)) : vq_J x1 k f0 x (t.1, sx_ua t.2.1 102 x4.toNat z7, Bs) x3 z7 B (rf_a A B) i0 [z6] vs (z6 + 1) := by
  obtain ⟨C, f, a1, a2, a3, a4, a5, a6, a7, a8, a9, a10, a11⟩ := h
  obtain ⟨m1, m2, m3, m4⟩ := hm trivial
  rcases a4 with ⟨_, q⟩ | ⟨c1, c2, c3⟩
  · exact absurd q h3
  have hl := rf_ct_len a7
  have hA := rf_at_pos A
  have e : rf_at (rf_a A B) = rf_at A + rf_at B := rfl
  have hlast := rf_cl_mem (d := 0) c1
  have e4 : x4.toNat = rf_cl C 0 := by omega
  have hnC := hfr2 C c2
  have q100 : (sx_ua t.2.1 102 x4.toNat z7) 100 = t.2.1 100 := sx_ua_ne (by decide)
  have q101 : (sx_ua t.2.1 102 x4.toNat z7) 101 = t.2.1 101 := sx_ua_ne (by decide)
  have q103 : (sx_ua t.2.1 102 x4.toNat z7) 103 = t.2.1 103 := sx_ua_ne (by decide)
  have q102 : (sx_ua t.2.1 102 x4.toNat z7) 102 = fun j => if j = x4.toNat then z7 else t.2.1 102 j := sx_ua_same _ _ _ _
  have hne : z7.toNat ≠ x4.toNat := fun q => hnC (by rw [q, e4]; exact hlast)
  have hnew : rf_nd (t.2.1 100) (t.2.1 101) ((sx_ua t.2.1 102 x4.toNat z7) 102) (t.2.1 103) (t.1 66 50) (rf_n z7.toNat 0 z6 .leaf .leaf) z7 := by
    refine ⟨⟨by omega, by omega⟩, ⟨m1, m2⟩, ?_, m4⟩
    rw [q102]
    show (if z7.toNat = x4.toNat then z7 else t.2.1 102 z7.toNat) = -1
    rw [if_neg hne]
    exact m3
  have hch := rf_ch_set (F' := (sx_ua t.2.1 102 x4.toNat z7) 102) hnew (d := 0) c1 a5 (fun j hj => by
    rw [q102]
    show (if j = x4.toNat then z7 else t.2.1 102 j) = _
    rw [if_neg (by rw [e4]; exact hj)]) (by
    rw [q102]
    show (if rf_cl C 0 = x4.toNat then z7 else _) = _
    rw [if_pos e4.symm]) c2
  have hhd : rf_no (t.1, sx_ua t.2.1 102 x4.toNat z7, Bs) (.inner x1.toNat k () f .leaf) x1 := by
    unfold rf_no
    dsimp only
    rw [q100, q101, q103]
    refine rf_nd_mono (Int.le_refl _) (fun j hj => ⟨rfl, rfl, ?_, rfl⟩) a1
    rw [q102]
    show (if j = x4.toNat then z7 else t.2.1 102 j) = _
    rw [if_neg (fun q => (a6 _ hlast).1 (by rw [← e4, ← q]; exact hj))]
  have a1' := a1
  obtain ⟨_, _, af, _⟩ := a1'
  have hlt := rf_nd_lt a1 x1.toNat List.mem_cons_self
  refine ⟨C ++ [(z7.toNat, z6)], f, hhd, a2, a3, Or.inr ⟨by simp, ?_, ?_⟩, ?_, ?_, rf_ct_up hxu (rf_ct_snoc hv a7), ?_, ?_, a10, ⟨fun q1 => ?_, fun c hc => ?_, ?_, fun q => ?_⟩⟩
  · unfold rf_no
    dsimp only
    rw [q100, q101, q103, rf_ch_snoc]
    exact hch
  · rw [rf_cl_snoc]
    omega
  · rw [List.map_append]
    refine List.nodup_append.mpr ⟨a5, by simp, fun a ha b hb q => ?_⟩
    have eb : b = z7.toNat := by simpa using hb
    exact hnC (by rw [← eb, ← q]; exact ha)
  · intro j hj
    rw [List.map_append, List.mem_append] at hj
    rcases hj with hj | hj
    · exact a6 j hj
    · have ej : j = z7.toNat := by simpa using hj
      subst ej
      exact ⟨hfr1 f a1, by omega, by show _ < t.1 66 50; omega⟩
  · rcases a8 with ⟨b1, w, b2, b3⟩ | ⟨b1, b2, b3⟩
    · exact Or.inl ⟨b1, w, rf_H_up hxu hlt b2, (rf_gt_up hxu af).2 _ _ b3⟩
    · exact Or.inr ⟨b1, b2, rf_mp_up hxu hlt b3⟩
  · rw [List.length_append]
    simp only [List.length_nil, List.length_cons]
    omega
  · obtain ⟨us, g, e1, e2⟩ := a11.1 q1
    rw [List.append_nil] at e1
    exact ⟨us, g, by rw [List.map_append, e1]; rfl, e2⟩
  · rw [List.map_append, List.mem_append] at hc
    rcases hc with hc | hc
    · have := a11.2.1 c hc
      omega
    · have ec : c = z6 := by simpa using hc
      rw [ec]
      exact ⟨hz6, by omega⟩
  · rw [List.map_append]
    refine List.nodup_append.mpr ⟨a11.2.2.1, by simp, fun a ha b hb e => ?_⟩
    have eb : b = z6 := by simpa using hb
    have := (a11.2.1 a ha).2
    omega
  · have := a11.2.2.2 q
    rw [List.append_nil] at this
    rw [List.map_append, ← List.append_assoc, ← this, rf_rv_102]
    rfl
theorem vq_J_met {Bs : (Nat → Nat → Int) × Nat} {w n x6 : Int} (h : vq_J x1 k f0 x u x3 x4 B (rf_a A B) i0 [x6] vs ib) (hk : k.1 = 3) (hw : w = u.1 66 56 + 1) (hn : n = u.1 66 56) (h0 : 0 ≤ n) (hv : rf_vt u x6 A) : vq_J x1 k f0 x (sx_uf u.1 66 56 w, sx_ua u.2.1 105 n.toNat x6, Bs) x3 x4 B B i0 [] vs ib := by
  have hx := rf_xu_var (B := Bs) (v := x6) hw hn h0
  obtain ⟨C, f, a1, a2, a3, a4, a5, a6, a7, a8, a9, a10, a11⟩ := h
  have hlt := rf_nd_lt a1 x1.toNat List.mem_cons_self
  have e50 : sx_uf u.1 66 56 w 66 50 = u.1 66 50 := by
    rw [sx_uf_if]
    exact if_neg (fun c => by cases c.2)
  have e56 : sx_uf u.1 66 56 w 66 56 = w := by
    rw [sx_uf_if]
    exact if_pos ⟨rfl, rfl⟩
  have a : ∀ q, q ≠ 105 → sx_ua u.2.1 105 n.toNat x6 q = u.2.1 q := fun q hq => sx_ua_ne hq
  have hno : ∀ m i, rf_no u m i → rf_no (sx_uf u.1 66 56 w, sx_ua u.2.1 105 n.toNat x6, Bs) m i := fun m i q => by
    unfold rf_no at q ⊢
    dsimp only
    rw [e50, a 100 (by decide), a 101 (by decide), a 102 (by decide), a 103 (by decide)]
    exact q
  have hA := rf_at_pos A
  have e : rf_at (rf_a A B) = rf_at A + rf_at B := rfl
  rcases a8 with ⟨b1, _⟩ | ⟨b1, b2, xx, ⟨c1, c2, c3, c4⟩, c5, c6⟩
  · omega
  have hrow : rf_rv (sx_uf u.1 66 56 w, sx_ua u.2.1 105 n.toNat x6, Bs) x1 ++ [] = vs ++ C.map Prod.snd := by
    obtain ⟨_, g2⟩ := rf_rp_up (rf_xu_refl u) c3 c4 c6
    rw [List.append_nil, ← a11.2.2.2 hk]
    unfold rf_rv
    dsimp only
    rw [a 104 (by decide), e56, show (w - u.2.1 104 x1.toNat).toNat = (u.1 66 56 - u.2.1 104 x1.toNat).toNat + 1 by omega]
    rw [rf_rl_s, rf_rl_eq (s := u) (fun q hq => by
      dsimp only
      rw [sx_ua_same]
      dsimp only
      rw [if_neg (by omega)])]
    dsimp only
    rw [sx_ua_same]
    dsimp only
    rw [if_pos (by omega)]
  refine ⟨C, f, hno _ _ a1, a2, a3, a4.imp id (fun q => ⟨q.1, hno _ _ q.2.1, q.2.2⟩), a5, fun j hj => ⟨(a6 j hj).1, (a6 j hj).2.1, by dsimp only; rw [e50]; exact (a6 j hj).2.2⟩, rf_ct_up hx a7, Or.inr ⟨hk, b2, ?_⟩, by omega, a10, ⟨fun q => absurd hk q, a11.2.1, a11.2.2.1, fun _ => hrow⟩⟩
  obtain ⟨g1, g2⟩ := rf_rp_up hx c3 c4 c6
  refine ⟨xx, ⟨?_, c2, ?_, ?_⟩, ?_, ?_⟩
  · have := (hx.2 0).1.2.2.2.2
    omega
  · dsimp only
    rw [a 104 (by decide)]
    exact c3
  · dsimp only
    exact Int.le_refl _
  · dsimp only
    rw [a 123 (by decide)]
    exact rf_is_up c5 hx.1
  · dsimp only
    rw [a 104 (by decide), e56]
    have hh := rf_rp_snoc (A := A) (B := B) (by
      dsimp only
      rw [sx_ua_same]
      dsimp only
      rw [if_pos (by rw [hn])]
      exact rf_vt_up hx hv) g1
    rw [← hw] at hh
    exact hh
theorem vq_J_app {n : rf_N} {p : Int} {t' : sx_S} {x6 : Int} (h : vq_J x1 k f0 x u x3 x4 B (rf_a A B) i0 [x6] vs ib) (hlf : rf_lf n x6) (hvn : vq_n A x6 n) (hsc : (rf_sc rf_G0 n).1 [x6]) (h3 : x3 ≠ -1) (hk : k.1 ≠ 3) (ha : rf_ag 100 103 (u.1 66 50) u t) (hx : rf_xu u t) (hn : rf_no t n p) (hnd : (rf_idx n).Nodup) (hlo : ∀ j ∈ rf_idx n, u.1 66 50 ≤ (j : Int)) (hnx : rf_nx n) (hty : (rf_gt (rf_H t) rf_P n).1 A) (hwh : (rf_wh n).1 + 1 ≤ 2 * rf_at A) (hoc : ∀ m, ¬ (rf_oc n).1 m) (h1 : t'.1 = t.1) (ht : ∀ f, rf_no t (.inner x1.toNat k () f .leaf) x1 → (f = .leaf ∧ t'.2.1 = sx_ua t.2.1 102 x1.toNat p) ∨ (f ≠ .leaf ∧ t'.2.1 = sx_ua t.2.1 103 (rf_last f 0) p)) : vq_J x1 k f0 x t' x3 x4 B B i0 [] vs ib := by
  obtain ⟨C, f, a1, a2, a3, a4, a5, a6, a7, a8, a9, a10, a11⟩ := h
  have hnn := (hx.2 0).1.2.2.1
  have b1 := rf_no_up ha hnn a1
  have hlt := rf_nd_lt a1
  have hC := ht f b1
  obtain ⟨d1, d2, d3, d4⟩ := rf_app_tr (lo := x1) (mid := u.1 66 50) (hi := t.1 66 50) (by rw [h1]) b1 a2 (fun j hj => ⟨a3 j hj, hlt j hj⟩) hn hnd (fun j hj => ⟨hlo j hj, rf_nd_lt hn j hj⟩) hnn hC
  have hxu : rf_xu t t' := by
    refine rf_xu_arr h1 (fun q hq => ?_)
    rcases hC with ⟨_, e⟩ | ⟨_, e⟩
    · rw [e]
      exact sx_ua_ne (by rcases hq with rfl | rfl | rfl | rfl | rfl | rfl | rfl <;> decide)
    · rw [e]
      exact sx_ua_ne (by rcases hq with rfl | rfl | rfl | rfl | rfl | rfl | rfl <;> decide)
  have hch : ∀ i, rf_no u (rf_ch C .leaf) i → rf_no t' (rf_ch C .leaf) i := fun i q => by
    have q2 := rf_no_up ha hnn q
    refine rf_nd_mono (Int.le_of_eq (by rw [h1])) (fun j hj => ?_) q2
    have hjC : j ∈ C.map Prod.fst := (rf_ch_idx.mp hj).elim id (fun z => absurd z List.not_mem_nil)
    have hjh := (a6 j hjC).1
    rcases hC with ⟨_, e⟩ | ⟨hf, e⟩
    · refine ⟨by rw [e, sx_ua_ne (by decide)], by rw [e, sx_ua_ne (by decide)], ?_, by rw [e, sx_ua_ne (by decide)]⟩
      rw [e, sx_ua_same]
      dsimp only
      rw [if_neg (fun z => hjh (by rw [z]; exact List.mem_cons_self))]
    · refine ⟨by rw [e, sx_ua_ne (by decide)], by rw [e, sx_ua_ne (by decide)], by rw [e, sx_ua_ne (by decide)], ?_⟩
      rw [e, sx_ua_same]
      dsimp only
      rw [if_neg (fun z => hjh (by rw [z]; exact List.mem_cons_of_mem _ (List.mem_append_left _ (rf_last_mem f 0 hf))))]
  have hxt := rf_xu_trans hxu hx
  have hlx := hlt x1.toNat List.mem_cons_self
  have a1' := a1
  obtain ⟨_, _, af, _⟩ := a1'
  have hA := rf_at_pos A
  have e : rf_at (rf_a A B) = rf_at A + rf_at B := rfl
  have hl := rf_ct_len a7
  have hC1 : 1 ≤ C.length := by
    rcases a4 with ⟨_, z⟩ | ⟨z, _⟩
    · exact absurd z h3
    · cases C with
      | nil => exact absurd rfl z
      | cons c l => exact Nat.succ_pos _
  rcases a8 with ⟨b1, w, b2, b3⟩ | ⟨b1, _⟩
  · refine ⟨C, rf_snoc f n, d1, d2, fun j hj => (d3 j hj).1, a4.imp id (fun q => ⟨q.1, hch _ q.2.1, q.2.2⟩), a5, fun j hj => ⟨fun z => ?_, (a6 j hj).2.1, ?_⟩, rf_ct_up hxt a7, Or.inl ⟨b1, w, rf_H_up hxt hlx b2, rf_gt_snoc ((rf_gt_up hxt af).2 _ _ b3) ?_⟩, ?_, fun m => ?_, ⟨fun q1 => by obtain ⟨us, g, e1, e2, e3, e4, As, e5, e6⟩ := a11.1 q1; exact ⟨us ++ [x6], rf_snoc g n, by rw [List.append_nil]; exact e1, by rw [e2, rf_snoc_assoc], rf_lf2_snoc hnx hlf e3, rf_sc_snoc ((rf_sc_mono (fun _ _ _ _ _ _ q => q.elim)).2 _ _ (fun v hv => List.mem_append_left _ hv) e4) (rf_sc_12 hnx ((rf_sc_mono (fun _ _ _ _ _ _ q => q.elim)).1 _ _ (fun v hv => List.mem_append_right _ hv) hsc)), As ++ [A], by rw [e5, List.append_assoc]; rfl, vq_g_s e6 hvn⟩, a11.2.1, a11.2.2.1, fun q => absurd q hk⟩⟩
    · have z2 : j = x1.toNat ∨ j ∈ rf_idx f ∨ j ∈ rf_idx n := by
        have z3 : j ∈ x1.toNat :: (rf_idx (rf_snoc f n) ++ []) := z
        rw [List.append_nil, List.mem_cons, rf_idx_snoc] at z3
        exact z3
      rcases z2 with z | z | z
      · exact (a6 j hj).1 (by rw [z]; exact List.mem_cons_self)
      · exact (a6 j hj).1 (List.mem_cons_of_mem _ (List.mem_append_left _ z))
      · have := hlo j z
        have := (a6 j hj).2.2
        omega
    · rw [h1]
      have := (a6 j hj).2.2
      omega
    · cases n with
      | leaf => exact hty.elim
      | inner nj nk nu nf nn =>
        have en : nn = .leaf := hnx
        subst en
        exact ⟨A, B, rfl, (rf_gt_up hxu hn).1 _ hty, rfl⟩
    · rw [rf_wh_snoc]
      have hw2 : (rf_wh n).2 = (rf_wh n).1 := by
        cases n with
        | leaf => exact hty.elim
        | inner nj nk nu nf nn =>
          have en : nn = .leaf := hnx
          subst en
          exact Nat.max_zero _
      rw [hw2]
      omega
    · rw [rf_oc_snoc, ← a10 m]
      constructor
      · rintro (z | z)
        · exact z
        · cases n with
          | leaf => exact z.elim
          | inner nj nk nu nf nn =>
            have en : nn = .leaf := hnx
            subst en
            rcases z with z | z
            · exact absurd z (hoc m)
            · exact z.elim
      · exact Or.inl
  · exact absurd b1 hk
end VQJ
theorem vq_ct_len {s : sx_S} : ∀ {C : List (Nat × Int)} {x y : rf_T}, rf_ct s C x y → (rf_args x).length = C.length + (rf_args y).length
  | [], x, y, g => by
    have e : x = y := g
    rw [e, List.length_nil]
    omega
  | c :: l, x, y, ⟨A, B, g1, g2, g3⟩ => by
    have ih := vq_ct_len g3
    rw [g1]
    show (rf_args B).length + 1 = l.length + 1 + (rf_args y).length
    omega
def vq_PC (i0 : Int) (k : Int × Int) (f0 : rf_N) (x : rf_T) (vs : List Int) (x1 : Int) (t : sx_S) (n : rf_N) : Prop := rf_PC i0 k f0 x vs x1 t n ∧ (k.1 ≠ 3 → vq_z x k.1 k.2 f0 i0 n) ∧ (k.1 = 3 → vq_y x k.2 vs i0 x1.toNat (rf_rv t x1) n)
section VQJ3
variable {x1 : Int} {k : Int × Int} {f0 : rf_N} {x : rf_T} {u t : sx_S} {x3 x4 : Int} {i0 ib : Int} {vs : List Int}
theorem vq_J_v {f : rf_N} {C : List (Nat × Int)} (a7 : rf_ct u C x .leaf) (a8 : ((k.1 = 1 ∨ k.1 = 2) ∧ ∃ w, rf_H u x1.toNat k.1 k.2 w ∧ (rf_gt (rf_H u) rf_P f).2 w .leaf) ∨ (k.1 = 3 ∧ f = .leaf ∧ rf_mp u x1.toNat k.2 .leaf (u.1 66 56))) (a11 : (k.1 ≠ 3 → ∃ us g, C.map Prod.snd = us ++ [] ∧ f = rf_snoc f0 g ∧ (rf_lf2 g).2 us ∧ (rf_sc rf_G0 g).2 us ∧ ∃ As, rf_args x = As ++ rf_args .leaf ∧ vq_g As us g) ∧ (∀ c ∈ C.map Prod.snd, i0 ≤ c ∧ c < ib) ∧ (C.map Prod.snd).Nodup ∧ (k.1 = 3 → rf_rv u x1 ++ [] = vs ++ C.map Prod.snd)) : (k.1 ≠ 3 → vq_z x k.1 k.2 f0 i0 (rf_ch C (.inner x1.toNat k () f .leaf))) ∧ (k.1 = 3 → vq_y x k.2 vs i0 x1.toNat (rf_rv u x1) (rf_ch C (.inner x1.toNat k () f .leaf))) := by
  constructor
  · intro h3
    obtain ⟨us, g, e1, e2, _, _, As, e5, e6⟩ := a11.1 h3
    have h0 : k.1 ≠ 0 := by
      rcases a8 with ⟨q, _⟩ | ⟨q, _⟩
      · omega
      · omega
    have e7 : As = rf_args x := by
      rw [e5]
      exact (List.append_nil _).symm
    rw [List.append_nil] at e1
    rw [e7, ← e1] at e6
    rw [e2]
    exact vq_z_mk (i := x1.toNat) (k := k.1) (h := k.2) h0 h3 e6 a11.2.2.1 (fun c hc => (a11.2.1 c hc).1)
  · intro h3
    have e1 := a11.2.2.2 h3
    rw [List.append_nil] at e1
    obtain ⟨k1, k2⟩ := k
    have h3' : k1 = 3 := h3
    subst h3'
    refine vq_y_mk (i := x1.toNat) ?_ a11.2.2.1 (fun c hc => (a11.2.1 c hc).1) e1 (by
      rcases a8 with ⟨q, _⟩ | ⟨_, q, _⟩
      · dsimp only at q
        omega
      · exact q)
    have := vq_ct_len a7
    rw [this]
    rfl
theorem vq_J_end1 (h : vq_J x1 k f0 x u (-1) x4 .leaf .leaf i0 [] vs ib) : rf_made x1 x u x1 (vq_PC i0 k f0 x vs x1 u) := by
  obtain ⟨C, f, a1, a2, a3, a4, a5, a6, a7, a8, a9, a10, a11⟩ := h
  have hC : C = [] := by
    rcases a4 with ⟨q, _⟩ | ⟨_, q, _⟩
    · exact q
    · cases C with
      | nil => rfl
      | cons c l =>
        have := q.1.1
        omega
  subst hC
  have ex : x = .leaf := a7
  obtain ⟨h1, ⟨h2, h2'⟩, h3⟩ := rf_J_head a8 a10
  have e1 : rf_at (.leaf : rf_T) = 1 := rfl
  simp only [List.length_nil] at a9
  have h4 := rf_J_end (C := []) a8 ⟨fun q => (by obtain ⟨us, g, e1, e2, e3, e4, _⟩ := a11.1 q; exact ⟨us, g, e1, e2, e3, e4⟩), a11.2⟩
  have h5 := vq_J_v (C := []) a7 a8 a11
  refine ⟨_, a1, a2, a3, rfl, by rw [ex]; exact h1, ⟨h4, ⟨fun q => ?_, fun q => ?_⟩, h3⟩, h5⟩
  · rw [h2 q]
    omega
  · rw [h2' q]
    have := rf_at_pos x
    omega
theorem vq_J_end2 {Bs : (Nat → Nat → Int) × Nat} (h : vq_J x1 k f0 x u x3 x4 .leaf .leaf i0 [] vs ib) (h3 : x3 ≠ -1) (h1' : 0 ≤ x1) : rf_made x1 x (u.1, sx_ua u.2.1 102 x4.toNat x1, Bs) x3 (vq_PC i0 k f0 x vs x1 (u.1, sx_ua u.2.1 102 x4.toNat x1, Bs)) := by
  obtain ⟨C, f, a1, a2, a3, a4, a5, a6, a7, a8, a9, a10, a11⟩ := h
  rcases a4 with ⟨_, q⟩ | ⟨c1, c2, c3⟩
  · exact absurd q h3
  obtain ⟨h1, ⟨h2, h2'⟩, h4⟩ := rf_J_head a8 a10
  have e1 : rf_at (.leaf : rf_T) = 1 := rfl
  have hl := rf_ct_len a7
  have hlast := rf_cl_mem (d := 0) c1
  have e4 : x4.toNat = rf_cl C 0 := by omega
  have q100 : (sx_ua u.2.1 102 x4.toNat x1) 100 = u.2.1 100 := sx_ua_ne (by decide)
  have q101 : (sx_ua u.2.1 102 x4.toNat x1) 101 = u.2.1 101 := sx_ua_ne (by decide)
  have q103 : (sx_ua u.2.1 102 x4.toNat x1) 103 = u.2.1 103 := sx_ua_ne (by decide)
  have q102 : (sx_ua u.2.1 102 x4.toNat x1) 102 = fun j => if j = x4.toNat then x1 else u.2.1 102 j := sx_ua_same _ _ _ _
  have hxu : rf_xu u (u.1, sx_ua u.2.1 102 x4.toNat x1, Bs) := rf_xu_arr rfl (fun q hq => sx_ua_ne (by rcases hq with rfl | rfl | rfl | rfl | rfl | rfl | rfl <;> decide))
  have hhd : rf_nd (u.2.1 100) (u.2.1 101) ((sx_ua u.2.1 102 x4.toNat x1) 102) (u.2.1 103) (u.1 66 50) (.inner x1.toNat k () f .leaf) x1 := by
    refine rf_nd_mono (Int.le_refl _) (fun j hj => ⟨rfl, rfl, ?_, rfl⟩) a1
    rw [q102]
    show (if j = x4.toNat then x1 else u.2.1 102 j) = _
    rw [if_neg (fun q => (a6 _ hlast).1 (by rw [← e4, ← q]; exact hj))]
  have hch := rf_ch_set (F' := (sx_ua u.2.1 102 x4.toNat x1) 102) hhd (d := 0) c1 a5 (fun j hj => by
    rw [q102]
    show (if j = x4.toNat then x1 else u.2.1 102 j) = _
    rw [if_neg (by rw [e4]; exact hj)]) (by
    rw [q102]
    show (if rf_cl C 0 = x4.toNat then x1 else _) = _
    rw [if_pos e4.symm]) c2
  have hno : rf_no (u.1, sx_ua u.2.1 102 x4.toNat x1, Bs) (rf_ch C (.inner x1.toNat k () f .leaf)) x3 := by
    unfold rf_no
    dsimp only
    rw [q100, q101, q103]
    exact hch
  refine ⟨rf_ch C (.inner x1.toNat k () f .leaf), hno, rf_ch_nodup a2 a5 (fun j hj => (a6 j hj).1), fun j hj => ?_, ?_, (rf_ct_gt (rf_ct_up hxu a7) ((rf_gt_up hxu a1).1 _ h1)), ⟨?_, ⟨fun q => ?_, fun q => ?_⟩, fun m => ?_⟩, by rw [rf_rv_102]; exact vq_J_v a7 a8 a11⟩
  · rcases rf_ch_idx.mp hj with q | q
    · exact (a6 j q).2.1
    · exact a3 j q
  · cases C with
    | nil => exact absurd rfl c1
    | cons c l => rfl
  · have hlt := rf_nd_lt a1 x1.toNat List.mem_cons_self
    have h := rf_J_end (i0 := i0) (ib := ib) (vs := vs) (f0 := f0) (C := C) a8 ⟨fun q => (by obtain ⟨us, g, e1, e2, e3, e4, _⟩ := a11.1 q; exact ⟨us, g, e1, e2, e3, e4⟩), a11.2⟩
    refine ⟨h.1, ?_, fun q => ⟨rf_mp_up hxu hlt (h.2.2 q).1, ?_⟩⟩
    · rw [rf_rv_102]
      exact h.2.1
    · rw [rf_rv_102]
      exact (h.2.2 q).2
  · rw [rf_ch_wh, h2 q]
    omega
  · rw [rf_ch_wh, h2' q]
    omega
  · rw [rf_ch_oc]
    exact h4 m
end VQJ3
end
section
/-! ===== the reference: close, longVar ===== -/
theorem vq_lv {sL : Nat} {sx : Nat → Int32} (hsL : sL ≤ 3072) {N d : Nat} (hd : 1 ≤ d) (hc : ∀ (x : rf_T) (x1 a1 : Int) (k : Int × Int) (f0 : rf_N) (s : sx_S) (K : Int → sx_S → Prop), rf_at x ≤ N → cx_I s → (0 ≤ x1 ∧ x1 ≤ 59999) → rf_is s x a1 → rf_at x ≤ 5 → (2 ≤ s.1 66 9 ∧ s.1 66 9 ≤ 6000) → s.1 66 50 + 2 * (rf_at x : Int) ≤ 59999 → s.1 66 58 + (rf_at x : Int) ≤ 399999 → s.1 66 56 + 5 ≤ 119990 → rf_no s (.inner x1.toNat k () f0 .leaf) x1 → (rf_idx (.inner x1.toNat k () f0 .leaf)).Nodup → (∀ j ∈ rf_idx (.inner x1.toNat k () f0 .leaf), x1 ≤ (j : Int)) → (((k.1 = 1 ∨ k.1 = 2) ∧ ∃ w, rf_H s x1.toNat k.1 k.2 w ∧ (rf_gt (rf_H s) rf_P f0).2 w x) ∨ (k.1 = 3 ∧ f0 = .leaf ∧ rf_mp s x1.toNat k.2 x (s.1 66 56))) → (∀ (z : Int) (t : sx_S), cx_I t → cx_F [(66, 66), (100, 103), (105, 106)] s t → rf_f [50, 56, 58] s t → rf_xu s t → rf_ag 100 103 x1 s t → (t.1 66 50 + 2 ≤ s.1 66 50 + 2 * (rf_at x : Int) ∧ t.1 66 58 + 1 ≤ s.1 66 58 + (rf_at x : Int) ∧ t.1 66 56 + 1 ≤ s.1 66 56 + (rf_at x : Int) ∧ (k.1 ≠ 3 → t.1 66 56 = s.1 66 56)) → rf_made x1 x t z (vq_PC (s.1 66 58) k f0 x (rf_rv s x1) x1 t) → K z t) → sx_C sL sx (d + 1) 180 [.inr (.inl 66), .inl x1, .inl a1] s K) : ∀ (A : rf_T) (v : Int) (s : sx_S) (K : Int → sx_S → Prop), rf_at A ≤ N → cx_I s → rf_vt s v A → rf_at A ≤ 5 → (2 ≤ s.1 66 9 ∧ s.1 66 9 ≤ 6000) → s.1 66 50 + 2 * (rf_at A : Int) ≤ 59998 → s.1 66 58 + (rf_at A : Int) ≤ 399999 → s.1 66 56 + 5 ≤ 119990 → (∀ (z : Int) (t : sx_S), cx_I t → cx_F [(66, 66), (100, 103), (105, 106)] s t → rf_f [50, 56, 58] s t → rf_xu s t → rf_ag 100 103 (s.1 66 50) s t → (t.1 66 50 + 1 ≤ s.1 66 50 + 2 * (rf_at A : Int) ∧ t.1 66 58 + 1 ≤ s.1 66 58 + (rf_at A : Int) ∧ t.1 66 56 = s.1 66 56) → rf_made (s.1 66 50) A t z (fun n => (rf_wh n).1 + 1 ≤ 2 * rf_at A ∧ (∀ m, ¬ (rf_oc n).1 m) ∧ rf_lf n v ∧ (rf_sc rf_G0 n).1 [v] ∧ vq_n A v n) → K z t) → sx_C sL sx (d + 2) 181 [.inr (.inl 66), .inl v] s K := by
  intro A v s K hN hI hv h5 h9 h50 h58 h56 hK
  have hA := rf_at_pos A
  have r50 := hI.fld 66 50 (by decide) rfl
  have r58 := hI.fld 66 58 (by decide) rfl
  refine sx_meth (wr := true) (n := 400) hsL (e := eX12_longVar) rfl (w_longVar (Q := fun _ _ _ => False) (PC := K) (c_r_make hsL (d + 1) (by omega)) hI ⟨hv.1.1, by have := hv.1.2; omega⟩ (by omega) ?_ (fun _ _ h => h))
  intro z1 u1 t1 m1 m2 m3 m4 m5 m6 m7 hu K' hK'
  have hx := rf_xu_make m2 m5 m4
  obtain ⟨g1, g2, g3, g4⟩ := m7 trivial
  have hvt := rf_vt_up hx hv
  have e9 := m5 9 rfl
  have e58 := m5 58 rfl
  have e56 := m5 56 rfl
  refine hc A z1 u1 (2, v) .leaf t1 K' hN m1 (by omega) (by rw [hu]; exact hvt.2) h5 (by omega) (by omega) (by omega) (by omega) ⟨⟨by omega, by omega⟩, ⟨g1, g2⟩, g3, g4⟩ (by simp [rf_idx]) (fun j hj => by simp [rf_idx] at hj; omega) (Or.inl ⟨Or.inr rfl, A, Or.inr (Or.inr (Or.inl ⟨rfl, hvt⟩)), rfl⟩) (fun z t p1 p2 p3 p4 p5 p6 p7 => hK' z t (hK z t p1 (cx_F_step p2 rfl (cx_F_step m2 rfl (cx_F_refl _ _))) (rf_f_step p3 rfl (rf_f_step m5 rfl (rf_f_refl _ _))) (rf_xu_trans p4 hx) (rf_ag_trans p5 (by omega) m6) ?_ ?_))
  · have := p6.2.2.2 (by show (2 : Int) ≠ 3; decide)
    omega
  · obtain ⟨n, n1, n2, n3, n4, n5, ⟨⟨nlf, nsc, _⟩, n6, n7⟩, nz, _⟩ := p7
    have hlf := (nlf [] v (fun _ => hvt.1.2)).mpr ⟨rfl, rfl, List.not_mem_nil, rfl⟩
    have hsc := nsc rf_G0 [v] (fun _ _ _ _ _ q => q.elim) (fun _ => List.mem_cons_self) (fun q => absurd (show (2 : Int) = 3 from q) (by decide)) trivial
    have hw := n6.1 (by show (2 : Int) ≠ 3; decide)
    refine ⟨n, n1, n2, fun j hj => by have := n3 j hj; omega, n4, n5, hw, fun m hm => ?_, hlf, hsc, vq_n_mk (nz (by show (2 : Int) ≠ 3; decide)) hvt.1.2⟩
    rcases (n7 m).mp hm with ⟨q, _⟩ | ⟨_, q⟩
    · exact absurd (show (2 : Int) = 3 from q) (by decide)
    · exact q
theorem vq_J_bnd {x1 : Int} {k : Int × Int} {f0 : rf_N} {x : rf_T} {u : sx_S} {x3 x4 : Int} {y ye : rf_T} {i0 ib : Int} {pe vs : List Int} (h : vq_J x1 k f0 x u x3 x4 y ye i0 pe vs ib) : x1 < u.1 66 50 ∧ -1 ≤ x3 ∧ x3 < u.1 66 50 ∧ (x3 ≠ -1 → 0 ≤ x4 ∧ x4 < u.1 66 50 ∧ x1 ≤ x4) ∧ u.2.1 100 x1.toNat = k.1 ∧ (∀ t : sx_S, rf_ag 100 103 (u.1 66 50) u t → u.1 66 50 ≤ t.1 66 50 → ∀ j : Nat, u.1 66 50 ≤ (j : Int) → (∀ f, rf_no t (.inner x1.toNat k () f .leaf) x1 → j ∉ rf_idx (.inner x1.toNat k () f .leaf)) ∧ (∀ C : List (Nat × Int), x3 ≠ -1 → rf_no t (rf_ch C .leaf) x3 → j ∉ C.map Prod.fst)) := by
  obtain ⟨C, f, a1, a2, a3, a4, a5, a6, a7, a8, a9, a10⟩ := h
  have hlt := rf_nd_lt a1 x1.toNat List.mem_cons_self
  have e0 := a1.1.1
  have ek := a1.2.1.1
  have hb : -1 ≤ x3 ∧ x3 < u.1 66 50 := by
    rcases a4 with ⟨_, q⟩ | ⟨_, q, _⟩
    · omega
    · have := rf_nd_rng q
      omega
  refine ⟨by omega, hb.1, hb.2, fun h3 => ?_, ek, fun t ha hn j hj => ⟨fun f' hf' hm => ?_, fun C' h3 hC' hm => ?_⟩⟩
  · rcases a4 with ⟨_, q⟩ | ⟨c1, _, c3⟩
    · exact absurd q h3
    · have := (a6 _ (rf_cl_mem (d := 0) c1)).2
      omega
  · have e := rf_nd_inj hf' (rf_no_up ha hn a1)
    rw [e] at hm
    have := rf_nd_lt a1 j hm
    omega
  · rcases a4 with ⟨_, q⟩ | ⟨c1, c2, c3⟩
    · exact absurd q h3
    · have e := rf_nd_inj hC' (rf_no_up ha hn c2)
      have hm2 : j ∈ rf_idx (rf_ch C' .leaf) := rf_ch_idx.mpr (Or.inl hm)
      rw [e] at hm2
      have := rf_nd_lt c2 j hm2
      omega
theorem vq_cl_ok {sL : Nat} {sx : Nat → Int32} (hsL : sL ≤ 3072) {N d : Nat} (hd : 1 ≤ d) (hlv : ∀ (A : rf_T) (v : Int) (s : sx_S) (K : Int → sx_S → Prop), rf_at A ≤ N → cx_I s → rf_vt s v A → rf_at A ≤ 5 → (2 ≤ s.1 66 9 ∧ s.1 66 9 ≤ 6000) → s.1 66 50 + 2 * (rf_at A : Int) ≤ 59998 → s.1 66 58 + (rf_at A : Int) ≤ 399999 → s.1 66 56 + 5 ≤ 119990 → (∀ (z : Int) (t : sx_S), cx_I t → cx_F [(66, 66), (100, 103), (105, 106)] s t → rf_f [50, 56, 58] s t → rf_xu s t → rf_ag 100 103 (s.1 66 50) s t → (t.1 66 50 + 1 ≤ s.1 66 50 + 2 * (rf_at A : Int) ∧ t.1 66 58 + 1 ≤ s.1 66 58 + (rf_at A : Int) ∧ t.1 66 56 = s.1 66 56) → rf_made (s.1 66 50) A t z (fun n => (rf_wh n).1 + 1 ≤ 2 * rf_at A ∧ (∀ m, ¬ (rf_oc n).1 m) ∧ rf_lf n v ∧ (rf_sc rf_G0 n).1 [v] ∧ vq_n A v n) → K z t) → sx_C sL sx (d + 1) 181 [.inr (.inl 66), .inl v] s K) : ∀ (x : rf_T) (x1 a1 : Int) (k : Int × Int) (f0 : rf_N) (s : sx_S) (K : Int → sx_S → Prop), rf_at x ≤ (N + 1) → cx_I s → (0 ≤ x1 ∧ x1 ≤ 59999) → rf_is s x a1 → rf_at x ≤ 5 → (2 ≤ s.1 66 9 ∧ s.1 66 9 ≤ 6000) → s.1 66 50 + 2 * (rf_at x : Int) ≤ 59999 → s.1 66 58 + (rf_at x : Int) ≤ 399999 → s.1 66 56 + 5 ≤ 119990 → rf_no s (.inner x1.toNat k () f0 .leaf) x1 → (rf_idx (.inner x1.toNat k () f0 .leaf)).Nodup → (∀ j ∈ rf_idx (.inner x1.toNat k () f0 .leaf), x1 ≤ (j : Int)) → (((k.1 = 1 ∨ k.1 = 2) ∧ ∃ w, rf_H s x1.toNat k.1 k.2 w ∧ (rf_gt (rf_H s) rf_P f0).2 w x) ∨ (k.1 = 3 ∧ f0 = .leaf ∧ rf_mp s x1.toNat k.2 x (s.1 66 56))) → (∀ (z : Int) (t : sx_S), cx_I t → cx_F [(66, 66), (100, 103), (105, 106)] s t → rf_f [50, 56, 58] s t → rf_xu s t → rf_ag 100 103 x1 s t → (t.1 66 50 + 2 ≤ s.1 66 50 + 2 * (rf_at x : Int) ∧ t.1 66 58 + 1 ≤ s.1 66 58 + (rf_at x : Int) ∧ t.1 66 56 + 1 ≤ s.1 66 56 + (rf_at x : Int) ∧ (k.1 ≠ 3 → t.1 66 56 = s.1 66 56)) → rf_made x1 x t z (vq_PC (s.1 66 58) k f0 x (rf_rv s x1) x1 t) → K z t) → sx_C sL sx (d + 2) 180 [.inr (.inl 66), .inl x1, .inl a1] s K := by
  intro x x1 a1 k f0 s K hN hI p1 hx h5 h9 h50 h58 h56 hno hnd hlo hty hK
  have hx0 := rf_at_pos x
  refine sx_methL (wr := true) (n := 400) (n' := 400) (stop := [(8, [0, 1, 3, 4, 5]), (60, [0, 1, 3, 4, 5, 6]), (105, [0, 1, 3, 4, 5])]) (fun n pc ls u => (pc = 8 ∧ ∃ (x3 x4 x5 : Int) (y : rf_T), ls = [(0, .inr (.inl 66)), (1, .inl x1), (3, .inl x3), (4, .inl x4), (5, .inl x5)] ∧ (cx_I u ∧ cx_F [(66, 66), (100, 103), (105, 106)] s u ∧ rf_f [50, 56, 58] s u ∧ rf_xu s u ∧ rf_ag 100 103 x1 s u) ∧ rf_is u y x5 ∧ (u.1 66 50 + 2 * (rf_at y : Int) ≤ s.1 66 50 + 2 * (rf_at x : Int) ∧ u.1 66 58 + (rf_at y : Int) ≤ s.1 66 58 + (rf_at x : Int) ∧ u.1 66 56 + (rf_at y : Int) ≤ s.1 66 56 + (rf_at x : Int) ∧ (k.1 ≠ 3 → u.1 66 56 = s.1 66 56)) ∧ vq_J x1 k f0 x u x3 x4 y y (s.1 66 58) [] (rf_rv s x1) (u.1 66 58) ∧ n = 10 * rf_at y + 5) ∨ (pc = 60 ∧ ∃ (x3 x4 x5 x6 : Int) (A B : rf_T), ls = [(0, .inr (.inl 66)), (1, .inl x1), (3, .inl x3), (4, .inl x4), (5, .inl x5), (6, .inl x6)] ∧ (cx_I u ∧ cx_F [(66, 66), (100, 103), (105, 106)] s u ∧ rf_f [50, 56, 58] s u ∧ rf_xu s u ∧ rf_ag 100 103 x1 s u) ∧ rf_is u (rf_a A B) x5 ∧ (u.1 66 50 + 2 * (rf_at A : Int) + 2 * (rf_at B : Int) ≤ s.1 66 50 + 2 * (rf_at x : Int) + 1 ∧ u.1 66 58 + (rf_at A : Int) + (rf_at B : Int) ≤ s.1 66 58 + (rf_at x : Int) + 1 ∧ u.1 66 56 + (rf_at A : Int) + (rf_at B : Int) ≤ s.1 66 56 + (rf_at x : Int) ∧ (k.1 ≠ 3 → u.1 66 56 = s.1 66 56)) ∧ vq_J x1 k f0 x u x3 x4 B (rf_a A B) (s.1 66 58) [x6] (rf_rv s x1) (u.1 66 58) ∧ x3 ≠ -1 ∧ rf_vt u x6 A ∧ n = 10 * (rf_at A + rf_at B) + 3) ∨ (pc = 105 ∧ ∃ (x3 x4 x5 : Int) (A B : rf_T), ls = [(0, .inr (.inl 66)), (1, .inl x1), (3, .inl x3), (4, .inl x4), (5, .inl x5)] ∧ (cx_I u ∧ cx_F [(66, 66), (100, 103), (105, 106)] s u ∧ rf_f [50, 56, 58] s u ∧ rf_xu s u ∧ rf_ag 100 103 x1 s u) ∧ rf_is u (rf_a A B) x5 ∧ (u.1 66 50 + 2 * (rf_at B : Int) ≤ s.1 66 50 + 2 * (rf_at x : Int) ∧ u.1 66 58 + (rf_at B : Int) ≤ s.1 66 58 + (rf_at x : Int) ∧ u.1 66 56 + (rf_at B : Int) ≤ s.1 66 56 + (rf_at x : Int) ∧ (k.1 ≠ 3 → u.1 66 56 = s.1 66 56)) ∧ vq_J x1 k f0 x u x3 x4 B B (s.1 66 58) [] (rf_rv s x1) (u.1 66 58) ∧ n = 10 * (rf_at A + rf_at B) + 1)) hsL (e := eX12_close) rfl ?_ ?_
  · refine w_close hI ⟨_, Or.inl ⟨rfl, -1, -1, a1, x, rfl, ⟨hI, cx_F_refl _ _, rf_f_refl _ _, rf_xu_refl _, rf_ag_refl _ _ _ _⟩, hx, ⟨by omega, by omega, by omega, fun _ => rfl⟩, ⟨[], f0, hno, hnd, hlo, Or.inl ⟨rfl, rfl⟩, List.nodup_nil, fun j hj => absurd hj List.not_mem_nil, rfl, hty, ⟨by simp only [List.length_nil]; omega, by simp only [List.length_nil]; omega⟩, fun _ => Iff.rfl, ⟨fun _ => ⟨[], .leaf, rfl, (rf_snoc_leaf f0).symm, rfl, trivial, [], rfl, vq_g_0⟩, fun c hc => absurd hc List.not_mem_nil, List.nodup_nil, fun _ => rfl⟩⟩, rfl⟩⟩
  · rintro n pc ls u (⟨rfl, x3, x4, x5, y, rfl, ⟨g1, g2, g3, g4, g5⟩, hy, hc, hJ, rfl⟩ | ⟨rfl, x3, x4, x5, x6, A, B, rfl, ⟨g1, g2, g3, g4, g5⟩, hy, hc, hJ, h3, hv, rfl⟩ | ⟨rfl, x3, x4, x5, A, B, rfl, ⟨g1, g2, g3, g4, g5⟩, hy, hc, hJ, rfl⟩)
    · have e9 := g3 9 rfl
      have y0 := rf_ty_lo hy
      have y1 := rf_ty_hi (by omega) hy
      have hyp := rf_at_pos y
      obtain ⟨b1, b2, b3, b4, b5, b6⟩ := vq_J_bnd hJ
      have r50 := g1.fld 66 50 (by decide) rfl
      have r58 := g1.fld 66 58 (by decide) rfl
      refine w_close_8 (c_r_newVarF hsL (d + 1) (by omega)) (c_r_make hsL (d + 1) (by omega)) g1 p1 (by omega) (fun h => by have := b4 h; omega) ⟨y0, by omega⟩ (by omega) (by omega) ?_ ?_ ?_ ?_
      · intro q5 q3
        have ey : y = .leaf := rf_ty_b hy (by omega)
        subst ey q3
        have e1 : rf_at (.leaf : rf_T) = 1 := rfl
        rw [e1] at hc
        exact hK x1 u g1 g2 g3 g4 g5 ⟨by omega, by omega, by omega, hc.2.2.2⟩ (vq_J_end1 hJ)
      · intro q5 q3
        have ey : y = .leaf := rf_ty_b hy (by omega)
        subst ey
        have e1 : rf_at (.leaf : rf_T) = 1 := rfl
        rw [e1] at hc
        have q4 := b4 q3
        have hx3 : rf_xu u (u.1, sx_ua u.2.1 102 x4.toNat x1, u.2.2) := rf_xu_arr (s := u) rfl (fun q hq => sx_ua_ne (by rcases hq with rfl | rfl | rfl | rfl | rfl | rfl | rfl <;> decide))
        refine hK x3 _ (cx_I_ua rfl rfl (F := u.1) (A := u.2.1) (B := u.2.2) g1 (by omega) (by omega)) (cx_F_ua rfl (F := u.1) (A := u.2.1) (B := u.2.2) g2) g3 (rf_xu_trans hx3 g4) (rf_ag_ua (F := u.1) (A := u.2.1) (B := u.2.2) q4.2.2 q4.1 g5) ⟨by dsimp only; omega, by dsimp only; omega, by dsimp only; omega, hc.2.2.2⟩ (vq_J_end2 hJ q3 p1.1)
      · intro q5 q3 z6 z7 t1 t2 m1 m2 m3 m4 m5 m6 m7 n1 n2 n3 n4 n5 n6 n7 n8
        obtain ⟨A, B, ey, hA, hB⟩ := rf_ty_a hy (by omega)
        subst ey q3
        have hx1 := rf_xu_new n1 n5 n4 n6
        have hx2 := rf_xu_make m1 m5 m4
        have pA := rf_at_pos A
        have pB := rf_at_pos B
        have eAB : rf_at (rf_a A B) = rf_at A + rf_at B := rfl
        rw [eAB] at hc
        have e56 : t1.1 66 56 = u.1 66 56 := n5 56 rfl
        have e56' : t2.1 66 56 = t1.1 66 56 := m5 56 rfl
        have e58' : t2.1 66 58 = t1.1 66 58 := m5 58 rfl
        have ag1 : rf_ag 100 103 (u.1 66 50) u t1 := rf_ag_F n1 rfl (rf_ag_refl _ _ _ _)
        have ag2 : rf_ag 100 103 (u.1 66 50) u t2 := rf_ag_trans m6 (by omega) ag1
        have hJ2 := vq_J_up (vq_J_up hJ ag1 hx1 e56) (by rw [n7] at m6 ⊢; exact m6) hx2 e56'
        have hvt : rf_vt t2 z6 A := rf_vt_up hx2 ⟨⟨by omega, by omega⟩, by rw [n8]; exact rf_is_up hA hx1.1⟩
        refine ⟨_, ?_, Or.inr (Or.inl ⟨rfl, z7, z7, x5, z6, A, B, rfl, ⟨m2, cx_F_step m1 rfl (cx_F_step n1 rfl g2), rf_f_step m5 rfl (rf_f_step n5 rfl g3), rf_xu_trans hx2 (rf_xu_trans hx1 g4), rf_ag_trans ag2 (by omega) g5⟩, rf_is_up (rf_is_up hy hx1.1) hx2.1, ⟨by omega, by omega, by omega, fun q => by have := hc.2.2.2 q; omega⟩, vq_J_ib (vq_J_lam1 hJ2 (by have := (g4.2 0).1.1; omega) (by omega) ⟨by omega, by omega⟩ m7 hvt (by omega) (fun f hf => (b6 t2 ag2 (by omega) z7.toNat (by omega)).1 f hf)) (by omega), by omega, hvt, rfl⟩)⟩
        omega
      · intro q5 q3 z6 z7 t1 t2 m1 m2 m3 m4 m5 m6 m7 n1 n2 n3 n4 n5 n6 n7 n8
        obtain ⟨A, B, ey, hA, hB⟩ := rf_ty_a hy (by omega)
        subst ey
        have q4 := b4 q3
        have hx1 := rf_xu_new n1 n5 n4 n6
        have hx2 := rf_xu_make m1 m5 m4
        have pA := rf_at_pos A
        have pB := rf_at_pos B
        have eAB : rf_at (rf_a A B) = rf_at A + rf_at B := rfl
        rw [eAB] at hc
        have e56 : t1.1 66 56 = u.1 66 56 := n5 56 rfl
        have e56' : t2.1 66 56 = t1.1 66 56 := m5 56 rfl
        have e58' : t2.1 66 58 = t1.1 66 58 := m5 58 rfl
        have ag1 : rf_ag 100 103 (u.1 66 50) u t1 := rf_ag_F n1 rfl (rf_ag_refl _ _ _ _)
        have ag2 : rf_ag 100 103 (u.1 66 50) u t2 := rf_ag_trans m6 (by omega) ag1
        have hJ2 := vq_J_up (vq_J_up hJ ag1 hx1 e56) (by rw [n7] at m6 ⊢; exact m6) hx2 e56'
        have hvt : rf_vt t2 z6 A := rf_vt_up hx2 ⟨⟨by omega, by omega⟩, by rw [n8]; exact rf_is_up hA hx1.1⟩
        have hx3 : rf_xu t2 (t2.1, sx_ua t2.2.1 102 x4.toNat z7, t2.2.2) := rf_xu_arr rfl (fun q hq => sx_ua_ne (by rcases hq with rfl | rfl | rfl | rfl | rfl | rfl | rfl <;> decide))
        have fr := b6 t2 ag2 (by omega) z7.toNat (by omega)
        refine ⟨_, ?_, Or.inr (Or.inl ⟨rfl, x3, z7, x5, z6, A, B, rfl, ⟨cx_I_ua rfl rfl (F := t2.1) (A := t2.2.1) (B := t2.2.2) m2 (by omega) (by omega), cx_F_ua rfl (F := t2.1) (A := t2.2.1) (B := t2.2.2) (cx_F_step m1 rfl (cx_F_step n1 rfl g2)), rf_f_step m5 rfl (rf_f_step n5 rfl g3), rf_xu_trans hx3 (rf_xu_trans hx2 (rf_xu_trans hx1 g4)), rf_ag_ua (F := t2.1) (A := t2.2.1) (B := t2.2.2) q4.2.2 q4.1 (rf_ag_trans ag2 (by omega) g5)⟩, rf_is_up (rf_is_up (rf_is_up hy hx1.1) hx2.1) hx3.1, ⟨by dsimp only; omega, by dsimp only; omega, by dsimp only; omega, fun q => by have := hc.2.2.2 q; dsimp only; omega⟩, vq_J_ib (vq_J_lam2 hJ2 (by have := (g4.2 0).1.1; omega) (by omega) q3 ⟨by omega, by omega⟩ m7 hvt (by omega) (fun _ _ _ _ => Or.inr trivial) (fun f hf => fr.1 f hf) (fun C hC => fr.2 C q3 hC) hx3) (by dsimp only; omega), q3, rf_vt_up hx3 hvt, rfl⟩)⟩
        omega
    · have e9 := g3 9 rfl
      have pA := rf_at_pos A
      have pB := rf_at_pos B
      obtain ⟨b1, b2, b3, b4, b5, b6⟩ := vq_J_bnd hJ
      have r50 := g1.fld 66 50 (by decide) rfl
      have r56 := g1.fld 66 56 (by decide) rfl
      have r58 := g1.fld 66 58 (by decide) rfl
      have hAt : rf_at A ≤ N ∧ rf_at A ≤ 5 := by
        obtain ⟨C, f, _, _, _, a4, _, _, _, _, a9, _⟩ := hJ
        have eAB : rf_at (rf_a A B) = rf_at A + rf_at B := rfl
        rw [eAB] at a9
        have hC1 : 1 ≤ C.length := by
          rcases a4 with ⟨_, z⟩ | ⟨z, _⟩
          · exact absurd z h3
          · cases C with
            | nil => exact absurd rfl z
            | cons c l => exact Nat.succ_pos _
        omega
      have hxx := rf_at_pos x
      refine w_close_60 (PL := fun p t => cx_I t ∧ cx_F [(66, 66), (100, 103), (105, 106)] u t ∧ rf_f [50, 56, 58] u t ∧ rf_xu u t ∧ rf_ag 100 103 (u.1 66 50) u t ∧ (t.1 66 50 + 1 ≤ u.1 66 50 + 2 * (rf_at A : Int) ∧ t.1 66 58 + 1 ≤ u.1 66 58 + (rf_at A : Int) ∧ t.1 66 56 = u.1 66 56) ∧ rf_made (u.1 66 50) A t p (fun n => (rf_wh n).1 + 1 ≤ 2 * rf_at A ∧ (∀ m, ¬ (rf_oc n).1 m) ∧ rf_lf n x6 ∧ (rf_sc rf_G0 n).1 [x6] ∧ vq_n A x6 n) ∧ k.1 ≠ 3) (PA := fun t => (cx_I t ∧ cx_F [(66, 66), (100, 103), (105, 106)] s t ∧ rf_f [50, 56, 58] s t ∧ rf_xu s t ∧ rf_ag 100 103 x1 s t) ∧ rf_is t (rf_a A B) x5 ∧ (t.1 66 50 + 2 * (rf_at B : Int) ≤ s.1 66 50 + 2 * (rf_at x : Int) ∧ t.1 66 58 + (rf_at B : Int) ≤ s.1 66 58 + (rf_at x : Int) ∧ t.1 66 56 + (rf_at B : Int) ≤ s.1 66 56 + (rf_at x : Int) ∧ (k.1 ≠ 3 → t.1 66 56 = s.1 66 56)) ∧ vq_J x1 k f0 x t x3 x4 B B (s.1 66 58) [] (rf_rv s x1) (t.1 66 58)) g1 p1 ⟨hv.1.1, by have := hv.1.2; omega⟩ (by omega) ?_ ?_ ?_ ?_
      · intro hk w n hw hn
        rw [b5] at hk
        have hxv := rf_xu_var (B := u.2.2) (v := x6) hw hn (by omega)
        have e50 : sx_uf u.1 66 56 w 66 50 = u.1 66 50 := by
          rw [sx_uf_if]
          exact if_neg (fun c => by cases c.2)
        have e58 : sx_uf u.1 66 56 w 66 58 = u.1 66 58 := by
          rw [sx_uf_if]
          exact if_neg (fun c => by cases c.2)
        have e56 : sx_uf u.1 66 56 w 66 56 = w := by
          rw [sx_uf_if]
          exact if_pos ⟨rfl, rfl⟩
        have hx6 := hv.1
        refine ⟨_, ?_, Or.inr (Or.inr ⟨rfl, x3, x4, x5, A, B, rfl, ⟨cx_I_uf rfl rfl (cx_I_ua rfl rfl (F := u.1) (A := u.2.1) (B := u.2.2) g1 (by omega) (by omega)) (by omega) (by omega), cx_F_uf rfl (cx_F_ua rfl (F := u.1) (A := u.2.1) (B := u.2.2) g2), rf_f_uf rfl (rf_f_ua (F := u.1) (A := u.2.1) (B := u.2.2) g3), rf_xu_trans hxv g4, rf_ag_uf (rf_ag_uo rfl (F := u.1) (A := u.2.1) (B := u.2.2) g5)⟩, rf_is_up hy hxv.1, ⟨by dsimp only; rw [e50]; omega, by dsimp only; rw [e58]; omega, by dsimp only; rw [e56]; omega, fun q => absurd hk q⟩, vq_J_ib (vq_J_met hJ hk hw hn (by omega) hv) (by dsimp only; rw [e58]; exact Int.le_refl _), rfl⟩)⟩
        omega
      · intro hk K' hK'
        rw [b5] at hk
        have hc4 := hc.2.2.2 hk
        refine hlv A x6 u K' hAt.1 g1 hv hAt.2 (by omega) (by omega) (by omega) (by omega) (fun z t q1 q2 q3 q4 q5 q6 q7 => hK' z t ⟨q1, q2, q3, q4, q5, q6, q7, hk⟩)
      · rintro p t ⟨q1, q2, q3, q4, q5, q6, ⟨nn, n1, n2, n3, n4, n5, n6, n7, n8⟩, hk⟩ K' hK'
        have hJ' := hJ
        obtain ⟨C, f, a1, a2, a3, a4, a5, a6, a7, a8, a9, a10⟩ := hJ'
        have hnn := (q4.2 0).1.2.2.1
        have b1' := rf_no_up q5 hnn a1
        have hp := rf_nd_rng n1
        have hp1 : p ≠ -1 := fun e => by
          have := rf_nd_nil n1 e
          subst this
          exact n5.elim
        have rt50 := q1.fld 66 50 (by decide) rfl
        have fin : ∀ t' : sx_S, t'.1 = t.1 → ((f = .leaf ∧ t'.2.1 = sx_ua t.2.1 102 x1.toNat p) ∨ (f ≠ .leaf ∧ t'.2.1 = sx_ua t.2.1 103 (rf_last f 0) p)) → vq_J x1 k f0 x t' x3 x4 B B (s.1 66 58) [] (rf_rv s x1) (t'.1 66 58) := fun t' e1 e2 => vq_J_ib (vq_J_app hJ n8.1 n8.2.2 n8.2.1 h3 hk q5 q4 n1 n2 n3 n4 n5 n6 n7 e1 (fun f' hf' => by
          have e := rf_nd_inj hf' b1'
          injection e with _ _ _ ef _
          subst ef
          exact e2)) (by rw [e1]; exact (q4.2 0).1.1)
        have hc4 := hc.2.2.2 hk
        have hxa : ∀ p' l' : Nat, (p' = 102 ∨ p' = 103) → rf_xu t (t.1, sx_ua t.2.1 p' l' p, t.2.2) := fun p' l' hp' => rf_xu_arr (s := t) rfl (fun q hq => sx_ua_ne (by omega))
        have fls : ∀ j ∈ rf_idx f, x1 ≤ (j : Int) := fun j hj => a3 j (List.mem_cons_of_mem _ (List.mem_append_left _ hj))
        refine c_r_append hsL (d + 1) (by omega) x1 p f t K' q1 p1 (by omega) b1'.2.2.1 (fun hl => hK' _ _ ⟨⟨cx_I_ua rfl rfl (F := t.1) (A := t.2.1) (B := t.2.2) q1 (by omega) (by omega), cx_F_ua rfl (F := t.1) (A := t.2.1) (B := t.2.2) (cx_F_step q2 rfl g2), rf_f_step q3 rfl g3, ?_, rf_ag_ua (F := t.1) (A := t.2.1) (B := t.2.2) (Int.le_refl _) p1.1 (rf_ag_trans q5 (by omega) g5)⟩, ?_, ⟨by dsimp only; omega, by dsimp only; omega, by dsimp only; omega, fun _ => by dsimp only; omega⟩, fin _ rfl (Or.inl ⟨hl, rfl⟩)⟩) (fun l hl el => hK' _ _ ⟨⟨cx_I_ua rfl rfl (F := t.1) (A := t.2.1) (B := t.2.2) q1 (by omega) (by omega), cx_F_ua rfl (F := t.1) (A := t.2.1) (B := t.2.2) (cx_F_step q2 rfl g2), rf_f_step q3 rfl g3, ?_, ?_⟩, ?_, ⟨by dsimp only; omega, by dsimp only; omega, by dsimp only; omega, fun _ => by dsimp only; omega⟩, fin _ rfl (Or.inr ⟨hl, by rw [el]⟩)⟩)
        · exact rf_xu_trans (hxa 102 x1.toNat (Or.inl rfl)) (rf_xu_trans q4 g4)
        · exact rf_is_up (rf_is_up hy q4.1) (hxa 102 x1.toNat (Or.inl rfl)).1
        · exact rf_xu_trans (hxa 103 l (Or.inr rfl)) (rf_xu_trans q4 g4)
        · have hlm := fls l (by rw [el]; exact rf_last_mem f 0 hl)
          have hq := rf_ag_ua (p := 103) (k := (l : Int)) (v := p) (F := t.1) (A := t.2.1) (B := t.2.2) hlm (by omega) (rf_ag_trans q5 (by omega) g5)
          exact hq
        · exact rf_is_up (rf_is_up hy q4.1) (hxa 103 l (Or.inr rfl)).1
      · rintro t' ⟨f1, f2, f3, f4⟩
        refine ⟨_, ?_, Or.inr (Or.inr ⟨rfl, x3, x4, x5, A, B, rfl, f1, f2, f3, f4, rfl⟩)⟩
        omega
    · have e9 := g3 9 rfl
      have y0 := rf_ty_lo hy
      have y1 := rf_ty_hi (by omega) hy
      refine w_close_105 g1 ⟨y0, by omega⟩ (fun v hv => ⟨_, ?_, Or.inl ⟨rfl, x3, x4, v, B, rfl, ⟨g1, g2, g3, g4, g5⟩, ?_, hc, hJ, rfl⟩⟩)
      · have := rf_at_pos A
        omega
      · rw [hv]
        exact hy.2.2
theorem c_v_clv {sL : Nat} {sx : Nat → Int32} (hsL : sL ≤ 3072) : ∀ N d : Nat, 2 * N + 4 ≤ d → (∀ (x : rf_T) (x1 a1 : Int) (k : Int × Int) (f0 : rf_N) (s : sx_S) (K : Int → sx_S → Prop), rf_at x ≤ N → cx_I s → (0 ≤ x1 ∧ x1 ≤ 59999) → rf_is s x a1 → rf_at x ≤ 5 → (2 ≤ s.1 66 9 ∧ s.1 66 9 ≤ 6000) → s.1 66 50 + 2 * (rf_at x : Int) ≤ 59999 → s.1 66 58 + (rf_at x : Int) ≤ 399999 → s.1 66 56 + 5 ≤ 119990 → rf_no s (.inner x1.toNat k () f0 .leaf) x1 → (rf_idx (.inner x1.toNat k () f0 .leaf)).Nodup → (∀ j ∈ rf_idx (.inner x1.toNat k () f0 .leaf), x1 ≤ (j : Int)) → (((k.1 = 1 ∨ k.1 = 2) ∧ ∃ w, rf_H s x1.toNat k.1 k.2 w ∧ (rf_gt (rf_H s) rf_P f0).2 w x) ∨ (k.1 = 3 ∧ f0 = .leaf ∧ rf_mp s x1.toNat k.2 x (s.1 66 56))) → (∀ (z : Int) (t : sx_S), cx_I t → cx_F [(66, 66), (100, 103), (105, 106)] s t → rf_f [50, 56, 58] s t → rf_xu s t → rf_ag 100 103 x1 s t → (t.1 66 50 + 2 ≤ s.1 66 50 + 2 * (rf_at x : Int) ∧ t.1 66 58 + 1 ≤ s.1 66 58 + (rf_at x : Int) ∧ t.1 66 56 + 1 ≤ s.1 66 56 + (rf_at x : Int) ∧ (k.1 ≠ 3 → t.1 66 56 = s.1 66 56)) → rf_made x1 x t z (vq_PC (s.1 66 58) k f0 x (rf_rv s x1) x1 t) → K z t) → sx_C sL sx d 180 [.inr (.inl 66), .inl x1, .inl a1] s K) ∧ (∀ (A : rf_T) (v : Int) (s : sx_S) (K : Int → sx_S → Prop), rf_at A ≤ N → cx_I s → rf_vt s v A → rf_at A ≤ 5 → (2 ≤ s.1 66 9 ∧ s.1 66 9 ≤ 6000) → s.1 66 50 + 2 * (rf_at A : Int) ≤ 59998 → s.1 66 58 + (rf_at A : Int) ≤ 399999 → s.1 66 56 + 5 ≤ 119990 → (∀ (z : Int) (t : sx_S), cx_I t → cx_F [(66, 66), (100, 103), (105, 106)] s t → rf_f [50, 56, 58] s t → rf_xu s t → rf_ag 100 103 (s.1 66 50) s t → (t.1 66 50 + 1 ≤ s.1 66 50 + 2 * (rf_at A : Int) ∧ t.1 66 58 + 1 ≤ s.1 66 58 + (rf_at A : Int) ∧ t.1 66 56 = s.1 66 56) → rf_made (s.1 66 50) A t z (fun n => (rf_wh n).1 + 1 ≤ 2 * rf_at A ∧ (∀ m, ¬ (rf_oc n).1 m) ∧ rf_lf n v ∧ (rf_sc rf_G0 n).1 [v] ∧ vq_n A v n) → K z t) → sx_C sL sx (d + 1) 181 [.inr (.inl 66), .inl v] s K) := by
  intro N
  induction N with
  | zero =>
    intro d hd
    refine ⟨fun x x1 a1 k f0 s K hN => ?_, fun A v s K hN => ?_⟩
    · have := rf_at_pos x
      omega
    · have := rf_at_pos A
      omega
  | succ N ih =>
    intro d hd
    have key : ∀ e, 2 * (N + 1) + 4 ≤ e → ∀ (x : rf_T) (x1 a1 : Int) (k : Int × Int) (f0 : rf_N) (s : sx_S) (K : Int → sx_S → Prop), rf_at x ≤ (N + 1) → cx_I s → (0 ≤ x1 ∧ x1 ≤ 59999) → rf_is s x a1 → rf_at x ≤ 5 → (2 ≤ s.1 66 9 ∧ s.1 66 9 ≤ 6000) → s.1 66 50 + 2 * (rf_at x : Int) ≤ 59999 → s.1 66 58 + (rf_at x : Int) ≤ 399999 → s.1 66 56 + 5 ≤ 119990 → rf_no s (.inner x1.toNat k () f0 .leaf) x1 → (rf_idx (.inner x1.toNat k () f0 .leaf)).Nodup → (∀ j ∈ rf_idx (.inner x1.toNat k () f0 .leaf), x1 ≤ (j : Int)) → (((k.1 = 1 ∨ k.1 = 2) ∧ ∃ w, rf_H s x1.toNat k.1 k.2 w ∧ (rf_gt (rf_H s) rf_P f0).2 w x) ∨ (k.1 = 3 ∧ f0 = .leaf ∧ rf_mp s x1.toNat k.2 x (s.1 66 56))) → (∀ (z : Int) (t : sx_S), cx_I t → cx_F [(66, 66), (100, 103), (105, 106)] s t → rf_f [50, 56, 58] s t → rf_xu s t → rf_ag 100 103 x1 s t → (t.1 66 50 + 2 ≤ s.1 66 50 + 2 * (rf_at x : Int) ∧ t.1 66 58 + 1 ≤ s.1 66 58 + (rf_at x : Int) ∧ t.1 66 56 + 1 ≤ s.1 66 56 + (rf_at x : Int) ∧ (k.1 ≠ 3 → t.1 66 56 = s.1 66 56)) → rf_made x1 x t z (vq_PC (s.1 66 58) k f0 x (rf_rv s x1) x1 t) → K z t) → sx_C sL sx e 180 [.inr (.inl 66), .inl x1, .inl a1] s K := fun e he => by
      obtain ⟨q, rfl⟩ : ∃ q, e = q + 2 := ⟨e - 2, by omega⟩
      exact vq_cl_ok hsL (by omega) (ih q (by omega)).2
    refine ⟨key d hd, ?_⟩
    obtain ⟨q, rfl⟩ : ∃ q, d = q + 1 := ⟨d - 1, by omega⟩
    exact vq_lv hsL (by omega) (key (q + 1) hd)
end
section
/-! ===== the reference: what build makes of what was read ===== -/
/-- RP: the type at a node that was read, RW: the row of an unknown's node, i0: what is made in it is not below -/
def vq_bm (RP : Nat → rf_T → Prop) (RW : Nat → Int → List Int → Prop) (i0 : Int) : rf_N → (rf_N → Prop) × (rf_N → Prop)
  | .leaf => (fun _ => False, fun F => F = .leaf)
  | .inner j k _ f x => (fun N => ((k.1 = 0 ∧ ∃ (i : Nat) (F : rf_N), N = rf_n i 0 k.2 F .leaf ∧ (vq_bm RP RW i0 f).1 F) ∨ ((k.1 = 1 ∨ k.1 = 2) ∧ ∃ (F : rf_N) (y : rf_T), RP j y ∧ (vq_bm RP RW i0 f).2 F ∧ vq_z y k.1 k.2 F i0 N) ∨ (k.1 = 3 ∧ ∃ (vs ws : List Int) (y : rf_T) (i : Nat), RP j y ∧ (rf_lf2 f).2 vs ∧ RW i k.2 ws ∧ vq_y y k.2 vs i0 i ws N)), fun G => ∃ W X : rf_N, (vx_sg W ∧ G = vx_sb W X) ∧ ((k.1 = 0 ∧ ∃ (i : Nat) (F : rf_N), W = rf_n i 0 k.2 F .leaf ∧ (vq_bm RP RW i0 f).1 F) ∨ ((k.1 = 1 ∨ k.1 = 2) ∧ ∃ (F : rf_N) (y : rf_T), RP j y ∧ (vq_bm RP RW i0 f).2 F ∧ vq_z y k.1 k.2 F i0 W) ∨ (k.1 = 3 ∧ ∃ (vs ws : List Int) (y : rf_T) (i : Nat), RP j y ∧ (rf_lf2 f).2 vs ∧ RW i k.2 ws ∧ vq_y y k.2 vs i0 i ws W)) ∧ (vq_bm RP RW i0 x).2 X)
theorem vq_bm_c {RP : Nat → rf_T → Prop} {RW : Nat → Int → List Int → Prop} {i0 : Int} {j : Nat} {k : Int × Int} {u : Unit} {f x G : rf_N} : (vq_bm RP RW i0 (.inner j k u f x)).2 G ↔ ∃ W X : rf_N, (vx_sg W ∧ G = vx_sb W X) ∧ (vq_bm RP RW i0 (.inner j k u f x)).1 W ∧ (vq_bm RP RW i0 x).2 X := Iff.rfl
theorem vq_z_le {x : rf_T} {k h : Int} {f0 n : rf_N} {i0 i1 : Int} (h01 : i0 ≤ i1) (h' : vq_z x k h f0 i1 n) : vq_z x k h f0 i0 n := by
  obtain ⟨us, h1, h2, h3, h4⟩ := h'
  exact ⟨us, h1, h2, fun c hc => by have := h3 c hc; omega, h4⟩
theorem vq_y_le {x : rf_T} {h : Int} {vs ws : List Int} {j : Nat} {n : rf_N} {i0 i1 : Int} (h01 : i0 ≤ i1) (h' : vq_y x h vs i1 j ws n) : vq_y x h vs i0 j ws n := by
  obtain ⟨us, h1, h2, h3, h4⟩ := h'
  exact ⟨us, h1, h2, fun c hc => by have := h3 c hc; omega, h4⟩
theorem vq_bm_up {RP RP' : Nat → rf_T → Prop} {RW RW' : Nat → Int → List Int → Prop} {i0 i1 : Int} (hP : ∀ j y, RP j y → RP' j y) (hW : ∀ i m ws, RW i m ws → RW' i m ws) (hi : i1 ≤ i0) : ∀ {m : rf_N}, (∀ N, (vq_bm RP RW i0 m).1 N → (vq_bm RP' RW' i1 m).1 N) ∧ (∀ F, (vq_bm RP RW i0 m).2 F → (vq_bm RP' RW' i1 m).2 F)
  | .leaf => ⟨fun _ h => h, fun _ h => h⟩
  | .inner j k u f x => by
    have hf := vq_bm_up hP hW hi (m := f)
    have hx := vq_bm_up hP hW hi (m := x)
    have key : ∀ N, (vq_bm RP RW i0 (.inner j k u f x)).1 N → (vq_bm RP' RW' i1 (.inner j k u f x)).1 N := by
      rintro N (⟨k0, i, F, h1, h2⟩ | ⟨k2, F, y, h1, h2, h3⟩ | ⟨k3, vs, ws, y, i, h1, h2, h3, h4⟩)
      · exact Or.inl ⟨k0, i, F, h1, hf.1 F h2⟩
      · exact Or.inr (Or.inl ⟨k2, F, y, hP j y h1, hf.2 F h2, vq_z_le hi h3⟩)
      · exact Or.inr (Or.inr ⟨k3, vs, ws, y, i, hP j y h1, h2, hW i _ ws h3, vq_y_le hi h4⟩)
    refine ⟨key, fun F h => ?_⟩
    obtain ⟨W, X, h1, h2, h3⟩ := vq_bm_c.mp h
    exact vq_bm_c.mpr ⟨W, X, h1, key W h2, hx.2 X h3⟩
theorem vq_bm_1 {RP : Nat → rf_T → Prop} {RW : Nat → Int → List Int → Prop} {i0 : Int} {j : Nat} {k : Int × Int} {u u' : Unit} {f x x' N : rf_N} (h : (vq_bm RP RW i0 (.inner j k u f x)).1 N) : (vq_bm RP RW i0 (.inner j k u' f x')).1 N := h
theorem vq_bm_s {RP : Nat → rf_T → Prop} {RW : Nat → Int → List Int → Prop} {i0 : Int} {j : Nat} {k : Int × Int} {u : Unit} {f N : rf_N} (hN : vx_sg N) (h : (vq_bm RP RW i0 (.inner j k u f .leaf)).1 N) : ∀ {m F : rf_N}, (vq_bm RP RW i0 m).2 F → (vq_bm RP RW i0 (rf_snoc m (.inner j k u f .leaf))).2 (rf_snoc F N)
  | .leaf, F, g => by
    have e : F = .leaf := g
    rw [e]
    refine vq_bm_c.mpr ⟨N, .leaf, ⟨hN, ?_⟩, h, rfl⟩
    obtain ⟨a, b, c, d, rfl⟩ := hN
    rfl
  | .inner j' k' u' f' x', F, g => by
    obtain ⟨W, X, ⟨s1, s2⟩, g2, g3⟩ := vq_bm_c.mp g
    have ih := vq_bm_s hN h g3
    refine vq_bm_c.mpr ⟨W, rf_snoc X N, ⟨s1, ?_⟩, g2, ih⟩
    rw [s2]
    obtain ⟨a, b, c, d, rfl⟩ := s1
    rfl
/-- a row in memory -/
def vq_RW (t : sx_S) (i : Nat) (m : Int) (ws : List Int) : Prop := ((i : Int) < t.1 66 50 ∧ (0 ≤ t.2.1 104 i ∧ t.2.1 104 i + (ws.length : Int) ≤ t.1 66 56) ∧ rf_rl t (t.2.1 104 i) ws.length = ws) ∧ ∃ x, rf_is t x (t.2.1 123 m.toNat) ∧ (rf_args x).length = ws.length
theorem vq_RW_up {s t : sx_S} (h : rf_xu s t) {i : Nat} {m : Int} {ws : List Int} (g : vq_RW s i m ws) : vq_RW t i m ws := by
  obtain ⟨⟨g1, ⟨g2, g3⟩, g4⟩, x, g5, g6⟩ := g
  have e0 := (h.2 0).1
  have e := (h.2 i).2.2.2.1 g1
  refine ⟨⟨by omega, ⟨by omega, by omega⟩, ?_⟩, x, ?_, g6⟩
  · rw [e, ← g4]
    rw [rf_rl_len]
    exact rf_rl_eq (fun q hq => (h.2 _).2.2.1 (by omega))
  · rw [(h.2 m.toNat).2.2.2.2.2]
    exact rf_is_up g5 h.1
def vq_PB (m : rf_N) (Γ : List Int) (i0 : Int) (t : sx_S) (N : rf_N) : Prop := rf_PB m Γ t N ∧ (vq_bm (rf_RP t) (vq_RW t) i0 m).1 N
theorem vq_RP_xu {s t : sx_S} (h : rf_xu s t) (h84 : t.2.1 84 = s.2.1 84) : ∀ j y, rf_RP s j y → rf_RP t j y := fun j y q => by
  unfold rf_RP at q ⊢
  rw [h84]
  exact rf_is_up q h.1
theorem vq_bm_xu {s t : sx_S} {i0 i1 : Int} (h : rf_xu s t) (h84 : t.2.1 84 = s.2.1 84) (hi : i1 ≤ i0) {m : rf_N} : (∀ N, (vq_bm (rf_RP s) (vq_RW s) i0 m).1 N → (vq_bm (rf_RP t) (vq_RW t) i1 m).1 N) ∧ (∀ F, (vq_bm (rf_RP s) (vq_RW s) i0 m).2 F → (vq_bm (rf_RP t) (vq_RW t) i1 m).2 F) := vq_bm_up (vq_RP_xu h h84) (fun _ _ _ q => vq_RW_up h q) hi
theorem vq_nx_sg {n : rf_N} (h : rf_nx n) (hn : n ≠ .leaf) : vx_sg n := by
  cases n with
  | leaf => exact absurd rfl hn
  | inner j k u f x =>
    have e : x = .leaf := h
    subst e
    exact ⟨j, k.1, k.2, f, rfl⟩
end
