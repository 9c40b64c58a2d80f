/-! ===== the reference: unify and the solutions, its contract ===== -/
/-- two heads with ARGs -/
theorem vr_hk_V {u : sx_S} {g : rf_Gh} {AR : Nat → List Int} {N : Int → rf_T → Prop} {A : rf_N} {y : rf_Y} {x : rf_T} {W : List Nat} {p : Nat} {i b v L : Int} (k : rf_CL u g N A y x W p i b) (hk : rf_hk u i) (hv : rf_hv u y i v) (tA : vr_t u AR A) : vr_r u AR (rf_fst A) ∧ ∀ th, vr_V th AR A y L = rf_n 0 (u.2.1 100 i.toNat) v (vr_X th AR (rf_fst A) y L) .leaf := by
  obtain ⟨j, kk, uu, f, n, eA, e1, e2, e3, e4, e5, e6, e7, e8⟩ := rf_CL_node k
  subst eA
  unfold rf_hv at hv
  unfold rf_hk at hk
  rw [e2, e4] at hk
  rw [e2, e4, e5] at hv
  refine ⟨?_, fun th => ?_⟩
  · rcases tA.2 with ⟨q, _⟩ | ⟨q, _⟩ | ⟨_, q⟩
    · omega
    · omega
    · exact q
  · rw [vr_V_rig hk, e2, e4, hv]
    rfl
theorem vr_PU_rf {s t : sx_S} {g : rf_Gh} {AR : Nat → List Int} {z : Int} {p : Nat} {P : (Int → rf_N) → Prop} (h : vr_PU s t g AR z p P) : rf_PU s t g z p := by
  obtain ⟨h1, h2, h3, _, h4⟩ := h
  refine ⟨h1, h2, h3, fun hz => ?_⟩
  obtain ⟨g', AR', k1, k2, k3, k4, k5, k6, k7, k8, _⟩ := h4 hz
  exact ⟨g', k1, k2, k3, k4, k5, k6, k7, k8⟩
theorem vr_PU_sym {s t : sx_S} {g : rf_Gh} {AR : Nat → List Int} {z : Int} {p : Nat} {A B : rf_N} {yA yB : rf_Y} {L : Int} (hI : cx_I s) (hV : vr_G s g AR) (h : vr_PU s t g AR z p (vr_E AR B yB A yA L)) : vr_PU s t g AR z p (vr_E AR A yA B yB L) := by
  obtain ⟨h1, h2, h3, h0, h4⟩ := h
  have hs : ∀ th, vx_So (vr_S s g AR) th → (vr_E AR B yB A yA L th ↔ vr_E AR A yA B yB L th) := fun th _ => ⟨fun q => q.symm, fun q => q.symm⟩
  refine ⟨h1, h2, h3, fun hz => vr_N_cg (fun th hS hp => (hs th hS).mpr hp) (h0 hz), fun hz => ?_⟩
  obtain ⟨g', AR', k1, k2, k3, k4, k5, k6, k7, k8, k9, k10, k11⟩ := h4 hz
  exact ⟨g', AR', k1, k2, k3, k4, k5, k6, k7, k8, k9, k10, vr_Y_cg (vr_W hI hV) hs k11⟩
theorem vr_UL_m {s u t : sx_S} {g g1 : rf_Gh} {AR1 : Nat → List Int} {P : (Int → rf_N) → Prop} {e p' : Nat} {z : Int} (h : rf_UL s u g g1 e p') (k : vr_PU u t g1 AR1 z p' P) (hz : z ≠ 0) (h70 : t.1 66 70 ≠ u.1 66 70) : ∃ g2 AR2, rf_UL s t g g2 e p' ∧ rf_EX (u.1 66 71) (u.1 66 58) u t ∧ rf_EG u g1 g2 ∧ u.1 66 71 ≤ t.1 66 71 ∧ u.1 66 58 ≤ t.1 66 58 ∧ vr_G t g2 AR2 ∧ (∀ j : Nat, (j : Int) < u.1 66 50 → AR2 j = AR1 j) ∧ vr_Y (vr_S u g1 AR1) (vr_S t g2 AR2) P := by
  obtain ⟨⟨h1, h2, h3, h4, h5⟩, ⟨h6, h6', h6''⟩, ⟨h7, h8⟩, ⟨h9, h10⟩, h11, h12⟩ := h
  obtain ⟨k1, k2, k3, _, k4⟩ := k
  obtain ⟨g', AR', j1, j2, j3, ⟨j4, j4', j4''⟩, ⟨j5, j5'⟩, ⟨j6, j6'⟩, j7, j8, j9, j10, j11⟩ := k4 hz
  have hlt := j8 h70
  have h70t := j2.1.2.2.2.2.2
  have h70s := h3.1.2.2.2.2.2
  have ha := rf_ar1 (a := rf_qu s) (b := rf_qu u) (c := rf_qu t) (p' := p') (by omega) (by omega)
  have hmx : max 1 (rf_qu u - rf_qu t) = rf_qu u - rf_qu t := Nat.max_eq_right (by omega)
  rw [hmx] at j5' j6'
  exact ⟨g', AR', ⟨⟨k2, j1, rf_EX_trans j2 h3 (by omega) (by omega), rf_EG_trans h3 j3 h4, rf_FS_trans k3 h5⟩, ⟨j4, j4', by omega⟩, ⟨by omega, by omega⟩, ⟨by omega, by omega⟩, fun q => (h70 (by clear hmx ha j5' j6' h8 h10; omega)).elim, fun _ => by clear hmx ha j5' j6' h8 h10; omega⟩, j2, j3, j5, j6, j9, j10, j11⟩
set_option maxRecDepth 8000 in
theorem vr_ut_ok {sL : Nat} {sx : Nat → Int32} (hsL : sL ≤ 3072) {P d : Nat} (hd : P + 149 ≤ d) (ih : vr_UT sL sx P (d + 1)) : vr_UT sL sx (P + 1) (d + 2) := by
  intro NA0 NB0 A0 B0 yA0 yB0 x WA0 WB0 pa0 pb0 a ba b bb s g AR K hI hM hph hR hV tA0 tB0 kA0 kB0 hpa0 hpb0 h71 h58 hK
  obtain ⟨P0, hP0⟩ : ∃ P0, P0 = vr_E AR A0 yA0 B0 yB0 (s.1 66 58) := ⟨_, rfl⟩
  rw [← hP0] at hK
  have pA := rf_CL_b hI kA0
  have pB := rf_CL_b hI kB0
  have r61 := hI.fld 66 61 (by decide) rfl
  have r56 := hI.fld 66 56 (by decide) rfl
  have hR2 := hR
  obtain ⟨q1, q2, q3, q4, q5, q6⟩ := hR
  have b71 := rf_bud1 h71
  have b58 := rf_bud1 h58
  refine sx_methW (wr := true) (n := 400) (n' := 400) (stop := [(69, [0, 5, 6, 7, 8]), (122, [0, 5, 6, 7, 8]), (175, [0, 5, 6, 7, 8]), (403, [0, 5, 6, 7, 8, 9]), (439, [0, 5, 6, 7, 8, 9, 10]), (483, [0, 6, 8, 11, 12])]) (fun ms pc ls u => (pc = 69 ∧ ∃ (NA NB : Int → rf_T → Prop) (A B : rf_N) (yA yB : rf_Y) (WA WB : List Nat) (pa pb : Nat) (x5 x6 x7 x8 : Int), ls = [(0, .inr (.inl 66)), (5, .inl x5), (6, .inl x6), (7, .inl x7), (8, .inl x8)] ∧ vr_U2 s u g AR P0 x pa0 pb0 NA NB A B yA yB WA WB pa pb x5 x6 x7 x8 ∧ ms = (3, pa)) ∨ (pc = 122 ∧ ∃ (NA NB : Int → rf_T → Prop) (A B : rf_N) (yA yB : rf_Y) (WA WB : List Nat) (pa pb : Nat) (x5 x6 x7 x8 : Int), ls = [(0, .inr (.inl 66)), (5, .inl x5), (6, .inl x6), (7, .inl x7), (8, .inl x8)] ∧ vr_U2 s u g AR P0 x pa0 pb0 NA NB A B yA yB WA WB pa pb x5 x6 x7 x8 ∧ rf_op u x5 ∧ ms = (2, pb)) ∨ (pc = 175 ∧ ∃ (NA NB : Int → rf_T → Prop) (A B : rf_N) (yA yB : rf_Y) (WA WB : List Nat) (pa pb : Nat) (x5 x6 x7 x8 : Int), ls = [(0, .inr (.inl 66)), (5, .inl x5), (6, .inl x6), (7, .inl x7), (8, .inl x8)] ∧ vr_U2 s u g AR P0 x pa0 pb0 NA NB A B yA yB WA WB pa pb x5 x6 x7 x8 ∧ rf_op u x5 ∧ rf_op u x7 ∧ ms = (1, 0)) ∨ (pc = 403 ∧ ∃ (NA NB : Int → rf_T → Prop) (A B : rf_N) (yA yB : rf_Y) (WA WB : List Nat) (pa pb : Nat) (x5 x6 x7 x8 : Int) (x9 : Int), ls = [(0, .inr (.inl 66)), (5, .inl x5), (6, .inl x6), (7, .inl x7), (8, .inl x8), (9, .inl x9)] ∧ vr_U2 s u g AR P0 x pa0 pb0 NA NB A B yA yB WA WB pa pb x5 x6 x7 x8 ∧ rf_hv u yA x5 x9 ∧ rf_hk u x5 ∧ rf_hk u x7 ∧ ms = (0, rf_len (rf_fst A) + 2)) ∨ (pc = 439 ∧ ∃ (NA NB : Int → rf_T → Prop) (A B : rf_N) (yA yB : rf_Y) (WA WB : List Nat) (pa pb : Nat) (x5 x6 x7 x8 : Int) (x9 x10 : Int), ls = [(0, .inr (.inl 66)), (5, .inl x5), (6, .inl x6), (7, .inl x7), (8, .inl x8), (9, .inl x9), (10, .inl x10)] ∧ vr_U2 s u g AR P0 x pa0 pb0 NA NB A B yA yB WA WB pa pb x5 x6 x7 x8 ∧ rf_hv u yA x5 x9 ∧ rf_hv u yB x7 x10 ∧ rf_hk u x5 ∧ rf_hk u x7 ∧ ms = (0, rf_len (rf_fst A) + 1)) ∨ (pc = 483 ∧ ∃ (NA NB : Int → rf_T → Prop) (fa fb : rf_N) (yA yB : rf_Y) (WA WB : List Nat) (p1 p2 e : Nat) (w : rf_T) (g1 : rf_Gh) (AR1 : Nat → List Int) (x6 x8 x11 x12 : Int), ls = [(0, .inr (.inl 66)), (6, .inl x6), (8, .inl x8), (11, .inl x11), (12, .inl x12)] ∧ (rf_UL s u g g1 e (p1 + p2) ∧ vr_UL s u g g1 AR AR1 fa fb yA yB P0) ∧ e + (p1 + p2) ≤ pa0 + pb0 ∧ rf_CR u g1 NA fa yA w WA p1 x12 x6 ∧ rf_CR u g1 NB fb yB w WB p2 x11 x8 ∧ p1 ≤ P ∧ p2 ≤ P ∧ ms = (0, rf_len fa))) hsL (e := eX12_unify) rfl ?_ ?_
  · refine w_vunify (PS := fun z => z ≠ 0 → ∀ q : Nat, (q : Int) < s.2.1 108 (s.2.1 101 a.toNat).toNat → rf_vo s yA0 a q = rf_vo s yB0 b q) hI pA pB ?_ ?_ ⟨_, Or.inl (⟨rfl, NA0, NB0, A0, B0, yA0, yB0, WA0, WB0, pa0, pb0, a, ba, b, bb, rfl, ⟨⟨rf_UB_refl hI, kA0, kB0, Nat.le_refl _, Nat.le_refl _⟩, ⟨tA0, tB0⟩, fun th _ => by rw [hP0]⟩, rfl⟩)⟩
    rotate_left
    · rintro h1 h2 h3 ⟨zz, z1, z2⟩
      refine hK 1 s (vr_PU_same hI hM hph hR2 hV (fun th hS => ?_))
      rw [hP0]
      unfold vr_E
      have r108 := hI.arr 108 (by decide) rfl (s.2.1 101 a.toNat).toNat
      rw [vr_E_3 kA0 h1 rfl tA0 (fun m => (hS.1 m).1), vr_E_3 kB0 h2 rfl tB0 (fun m => (hS.1 m).1), ← h3]
      have : (List.range (rf_aa s (s.2.1 101 a.toNat)).toNat).map (rf_vo s yA0 a) = (List.range (rf_aa s (s.2.1 101 a.toNat)).toNat).map (rf_vo s yB0 b) := List.map_congr_left (fun q hq => z2 z1 q (by
        have := List.mem_range.mp hq
        unfold rf_aa at this
        omega))
      rw [this]
    intro h1 h2 h3 K' hK'
    obtain ⟨m0, m1, _⟩ := rf_CL_3 kA0 h1
    obtain ⟨n0, n1, _⟩ := rf_CL_3 kB0 h2
    rw [← h3] at n1
    have yA4 := kA0.1.2.2.2
    have yB4 := kB0.1.2.2.2
    have r108 := hI.arr 108 (by decide) rfl (s.2.1 101 a.toNat).toNat
    unfold rf_aa at m1 n1
    exact c_v_sameVars hsL 100 (d + 1) (by omega) yA0 yB0 a ba b bb s K' hI pA pB (by omega) (fun q hq => ⟨by omega, by omega⟩) (by have := yA4.2.2.2; omega) (by have := yB4.2.2.2; omega) yA4.1 yB4.1 hK'
  · rintro ms pc ls u (⟨rfl, NA, NB, A, B, yA, yB, WA, WB, pa, pb, x5, x6, x7, x8, rfl, hU, rfl⟩ | ⟨rfl, NA, NB, A, B, yA, yB, WA, WB, pa, pb, x5, x6, x7, x8, rfl, hU, ho, rfl⟩ | ⟨rfl, NA, NB, A, B, yA, yB, WA, WB, pa, pb, x5, x6, x7, x8, rfl, hU, ho, ho2, rfl⟩ | ⟨rfl, NA, NB, A, B, yA, yB, WA, WB, pa, pb, x5, x6, x7, x8, x9, rfl, hU, hv, hk, hk2, rfl⟩ | ⟨rfl, NA, NB, A, B, yA, yB, WA, WB, pa, pb, x5, x6, x7, x8, x9, x10, rfl, hU, hv, hv2, hk, hk2, rfl⟩ | ⟨rfl, NA, NB, fa, fb, yA, yB, WA, WB, p1, p2, e, w, g1, AR1, x6, x8, x11, x12, rfl, ⟨hL, hLV⟩, he, cA, cB, hp1, hp2, rfl⟩)
    · -- 69
      obtain ⟨⟨hB, kA, kB, hpa, hpb⟩, ⟨tA, tB⟩, hPP⟩ := hU
      obtain ⟨hMu, hphu, hRu, hqu⟩ := rf_UB_M hB hM hph hR2
      have eS : vr_S u g AR = vr_S s g AR := vr_UB_S hB hM
      have hVu : vr_G u g AR := vr_G_up hB.1.2.1 (rf_EG_refl _ _) hB.1.2.2.1 (fun _ _ => rfl) hV
      have u1 := hB.1.1
      have u71 := hB.2.1
      have u70 := hRu.2.2.2.2.1
      have pA := rf_CL_b u1 kA
      have pB := rf_CL_b u1 kB
      have ru := u1.fld 66 61 (by decide) rfl
      refine w_unify_69 (PE := fun z t => (cx_I t ∧ cx_F [(66, 66), (115, 117)] u t ∧ rf_f [71] u t ∧ rf_ag 115 117 (u.1 66 71) u t ∧ (u.1 66 71 ≤ t.1 66 71 ∧ t.1 66 71 ≤ u.1 66 71 + 5)) ∧ x = .leaf ∧ 5 ≤ pa ∧ (∃ (N' : Int → rf_T → Prop) (A' : rf_N) (y' : rf_Y) (W' : List Nat), rf_CL t g N' A' y' .leaf W' (pa - 5) (t.2.1 113 (u.2.1 101 x5.toNat).toNat) z ∧ vr_t t AR A' ∧ ∀ th, vx_So (vr_S u g AR) th → ∀ L, vr_V th AR A yA L = vr_V th AR A' y' L)) u1 pA pB (fun q => by have := (rf_CL_3 kA q).1; omega) ?_ ?_ ?_ ?_
      · intro h3 hs K' hK'
        exact vr_en_C hsL (by omega) u1 hVu tA hMu (Int.le_refl _) (Int.le_refl _) hphu (by omega) kA h3 hs (by omega) (fun z t c1 c2 c3 c4 c5 c6 c7 c8 => hK' z t ⟨⟨c1, c2, c3, c4, c5⟩, c6, c7, c8⟩)
      · rintro z t ⟨⟨c1, c2, _⟩, _⟩
        exact ⟨c1, (c2.same 101 rfl).2⟩
      · rintro h3 hs z t ⟨⟨c1, c2, c3, c4, c5⟩, rfl, c7, N', A', y', W', c8, c9, c10⟩ v hv
        obtain ⟨hE, _⟩ := rf_EX_name (ib := u.1 66 58) c2 c3 c4
        have kB2 := rf_CL_up hE c5.1 (Int.le_of_eq (c3 58 rfl).symm) (rf_EG_refl u g) hMu.ub kB
        rw [hv]
        have hB2 := rf_UB_s (k := 5) hB c1 c2 c3 c4 c5 (by omega)
        rw [show pa + pb - 5 = pa - 5 + pb by omega] at hB2
        exact ⟨_, rf_lex2 (by omega), Or.inl (⟨rfl, N', NB, A', B, y', yB, W', WB, pa - 5, pb, _, z, x7, x8, rfl, ⟨⟨hB2, c8, kB2, by omega, hpb⟩, ⟨c9, (vr_t_up hE (fun _ _ => rfl)).1 tB⟩, fun th hS => by
          rw [← hPP th hS]
          unfold vr_E
          rw [c10 th (by rw [eS]; exact hS)]⟩, rfl⟩)⟩
      · intro hx
        exact ⟨_, rf_lex1 (by decide), Or.inr (Or.inl (⟨rfl, NA, NB, A, B, yA, yB, WA, WB, pa, pb, x5, x6, x7, x8, rfl, ⟨⟨hB, kA, kB, hpa, hpb⟩, ⟨tA, tB⟩, hPP⟩, hx, rfl⟩))⟩
    · -- 122
      obtain ⟨⟨hB, kA, kB, hpa, hpb⟩, ⟨tA, tB⟩, hPP⟩ := hU
      obtain ⟨hMu, hphu, hRu, hqu⟩ := rf_UB_M hB hM hph hR2
      have eS : vr_S u g AR = vr_S s g AR := vr_UB_S hB hM
      have hVu : vr_G u g AR := vr_G_up hB.1.2.1 (rf_EG_refl _ _) hB.1.2.2.1 (fun _ _ => rfl) hV
      have u1 := hB.1.1
      have u71 := hB.2.1
      have u70 := hRu.2.2.2.2.1
      have pA := rf_CL_b u1 kA
      have pB := rf_CL_b u1 kB
      have ru := u1.fld 66 61 (by decide) rfl
      refine w_unify_122 (PE := fun z t => (cx_I t ∧ cx_F [(66, 66), (115, 117)] u t ∧ rf_f [71] u t ∧ rf_ag 115 117 (u.1 66 71) u t ∧ (u.1 66 71 ≤ t.1 66 71 ∧ t.1 66 71 ≤ u.1 66 71 + 5)) ∧ x = .leaf ∧ 5 ≤ pb ∧ (∃ (N' : Int → rf_T → Prop) (A' : rf_N) (y' : rf_Y) (W' : List Nat), rf_CL t g N' A' y' .leaf W' (pb - 5) (t.2.1 113 (u.2.1 101 x7.toNat).toNat) z ∧ vr_t t AR A' ∧ ∀ th, vx_So (vr_S u g AR) th → ∀ L, vr_V th AR B yB L = vr_V th AR A' y' L)) u1 pA pB (fun q => by have := (rf_CL_3 kB q).1; omega) ?_ ?_ ?_ ?_
      · intro h3 hs K' hK'
        exact vr_en_C hsL (by omega) u1 hVu tB hMu (Int.le_refl _) (Int.le_refl _) hphu (by omega) kB h3 hs (by omega) (fun z t c1 c2 c3 c4 c5 c6 c7 c8 => hK' z t ⟨⟨c1, c2, c3, c4, c5⟩, c6, c7, c8⟩)
      · rintro z t ⟨⟨c1, c2, _⟩, _⟩
        exact ⟨c1, (c2.same 101 rfl).2⟩
      · rintro h3 hs z t ⟨⟨c1, c2, c3, c4, c5⟩, rfl, c7, N', A', y', W', c8, c9, c10⟩ v hv
        obtain ⟨hE, _⟩ := rf_EX_name (ib := u.1 66 58) c2 c3 c4
        have kA2 := rf_CL_up hE c5.1 (Int.le_of_eq (c3 58 rfl).symm) (rf_EG_refl u g) hMu.ub kA
        rw [hv]
        have hB2 := rf_UB_s (k := 5) hB c1 c2 c3 c4 c5 (by omega)
        rw [show pa + pb - 5 = pa + (pb - 5) by omega] at hB2
        have hop : rf_op t x5 := by
          unfold rf_op
          rw [(c2.same 100 rfl).2, (c2.same 101 rfl).2, (c2.same 111 rfl).2]
          exact ho
        exact ⟨_, rf_lex2 (by omega), Or.inr (Or.inl (⟨rfl, NA, N', A, A', yA, y', WA, W', pa, pb - 5, x5, x6, _, z, rfl, ⟨⟨hB2, kA2, c8, hpa, by omega⟩, ⟨(vr_t_up hE (fun _ _ => rfl)).1 tA, c9⟩, fun th hS => by
          rw [← hPP th hS]
          unfold vr_E
          rw [c10 th (by rw [eS]; exact hS)]⟩, hop, rfl⟩))⟩
      · intro hx
        exact ⟨_, rf_lex1 (by decide), Or.inr (Or.inr (Or.inl (⟨rfl, NA, NB, A, B, yA, yB, WA, WB, pa, pb, x5, x6, x7, x8, rfl, ⟨⟨hB, kA, kB, hpa, hpb⟩, ⟨tA, tB⟩, hPP⟩, ho, hx, rfl⟩)))⟩
    · -- 175
      obtain ⟨⟨hB, kA, kB, hpa, hpb⟩, ⟨tA, tB⟩, hPP⟩ := hU
      obtain ⟨hMu, hphu, hRu, hqu⟩ := rf_UB_M hB hM hph hR2
      have eS : vr_S u g AR = vr_S s g AR := vr_UB_S hB hM
      have hVu : vr_G u g AR := vr_G_up hB.1.2.1 (rf_EG_refl _ _) hB.1.2.2.1 (fun _ _ => rfl) hV
      have hB0 := hB
      have u1 := hB.1.1
      have u71 := hB.2.1
      have u58 := hB.2.2.1
      have u70 := hRu.2.2.2.2.1
      have pA := rf_CL_b u1 kA
      have pB := rf_CL_b u1 kB
      have yA4 := kA.1.2.2.2
      have yB4 := kB.1.2.2.2
      have r58 := u1.fld 66 58 (by decide) rfl
      have r71 := u1.fld 66 71 (by decide) rfl
      have bu71 : u.1 66 71 + (((rf_qu u + 1) * (pa + pb) : Nat) : Int) ≤ 390000 := by rw [hqu]; exact rf_bud h71 (by omega) (by omega)
      have bu58 : u.1 66 58 + (((rf_qu u + 1) * (pa + pb) : Nat) : Int) ≤ 390000 := by rw [hqu]; exact rf_bud h58 (by omega) (by omega)
      have bv71 := rf_bud1 bu71
      have bv58 := rf_bud1 bu58
      obtain ⟨ja, ka, ua, fa, na, eA, a1, a2, a3, a4, a5, a6, a7, a8⟩ := rf_CL_node kA
      obtain ⟨jb, kb, ub, fb, nb, eB, b1, b2, b3, b4, b5, b6, b7, b8⟩ := rf_CL_node kB
      have hbya := rf_by_hi yA4.1
      have hbyb := rf_by_hi yB4.1
      have eKa : u.2.1 100 x5.toNat = ka.1 := by rw [a2]; exact a4
      have eRa : u.2.1 101 x5.toNat = ka.2 := by rw [a2]; exact a5
      have eKb : u.2.1 100 x7.toNat = kb.1 := by rw [b2]; exact b4
      have eRb : u.2.1 101 x7.toNat = kb.2 := by rw [b2]; exact b5
      have hka : ka.1 = 0 → (0 ≤ ka.2 ∧ ka.2 < u.1 66 58) ∧ kb.1 = 0 ∧ (0 ≤ kb.2 ∧ kb.2 < u.1 66 58) ∧ ∃ C D, x = rf_a C D := fun q => by
        rcases a8 with ⟨_, C, D, hx, hv, _⟩ | ⟨c, _⟩
        · rcases b8 with ⟨c, C', D', hx', hv', _⟩ | ⟨c, hx', _⟩
          · exact ⟨hv.1, c, hv'.1, C, D, hx⟩
          · rw [hx] at hx'
            cases hx'
        · exact absurd q c
      have hkbN : ka.1 ≠ 0 → kb.1 ≠ 0 := fun q c => by
        rcases a8 with ⟨z, _⟩ | ⟨_, hx, _⟩
        · exact q z
        · rcases b8 with ⟨_, C', D', hx', _⟩ | ⟨z, _⟩
          · rw [hx] at hx'
            cases hx'
          · exact z c
      have hkks : (ka.1 = 0 ∨ ka.1 = 1 ∨ ka.1 = 2 ∨ ka.1 = 3) ∧ (kb.1 = 0 ∨ kb.1 = 1 ∨ kb.1 = 2 ∨ kb.1 = 3) := by
        constructor
        · rcases a8 with ⟨c, _⟩ | ⟨_, _, w, hw, _⟩
          · exact Or.inl c
          · exact rf_Hn_k hw
        · rcases b8 with ⟨c, _⟩ | ⟨_, _, w, hw, _⟩
          · exact Or.inl c
          · exact rf_Hn_k hw
      refine w_unify_175 (lk := rf_look yA ka.2) (PV := fun z t => cx_I t ∧ cx_F [(66, 66), (106, 106)] u t ∧ z = u.1 66 58 ∧ t.1 66 58 = u.1 66 58 + 1 ∧ rf_f [58] u t ∧ rf_ag 106 106 (u.1 66 58) u t ∧ t.2.1 106 z.toNat = u.2.1 106 ka.2.toNat) (PN := fun z t z2 t2 => cx_I t2 ∧ cx_F [(66, 66), (115, 117)] t t2 ∧ z2 = t.1 66 71 ∧ t2.1 66 71 = t.1 66 71 + 1 ∧ rf_f [71] t t2 ∧ rf_ag 115 117 (t.1 66 71) t t2 ∧ rf_nm t2 z2 ka.2 z x6) (PO := fun z2 t2 z3 t3 => cx_I t3 ∧ cx_F [(66, 66), (115, 117)] t2 t3 ∧ z3 = t2.1 66 71 ∧ t3.1 66 71 = t2.1 66 71 + 1 ∧ rf_f [71] t2 t3 ∧ rf_ag 115 117 (t2.1 66 71) t2 t3 ∧ rf_nm t3 z3 kb.2 (u.1 66 58) x8) (PF := fun z t => vr_PU u t g AR z (pa + pb) (vr_E AR A yA B yB (u.1 66 58))) u1 pA pB (fun q => by have := (hka (by omega)).1; omega) ?_ ?_ ?_ ?_ ?_ ?_ ?_ ?_ ?_ ?_ ?_ ?_ ?_ ?_ ?_
      · intro k0 v hv K' hK'
        have hr := u1.arr 106 (by decide) rfl ka.2.toNat
        rw [eRa] at hv
        exact c_r_newVar hsL (d + 1) (by omega) v u K' u1 (by omega) (by omega) (fun z t c1 c2 c3 c4 c5 c6 c7 => hK' z t ⟨c1, c2, c3, c4, c5, c6, by rw [c7]; exact hv⟩)
      · rintro z t ⟨c1, _⟩
        exact c1
      · rintro k0 z t ⟨c1, c2, c3, c4, c5, c6, c7⟩ v hv K' hK'
        have c71 := c5 71 rfl
        have hk := hka (by omega)
        have hv2 : v = ka.2 := by rw [hv, (c2.same 101 rfl).2]; exact eRa
        rw [hv2]
        exact c_r_name hsL (d + 1) (by omega) ka.2 z x6 t K' c1 (by omega) (by omega) (by omega) (by omega) (fun z2 t2 f1 f2 f3 f4 f5 f6 f7 => hK' z2 t2 ⟨f1, f2, f3, f4, f5, f6, f7⟩)
      · rintro z t z2 t2 ⟨c1, _⟩
        exact c1
      · rintro k0 z t z2 t2 ⟨c1, c2, c3, c4, c5, c6, c7⟩ ⟨f1, f2, f3, f4, f5, f6, f7⟩ v hv K' hK'
        have c71 := c5 71 rfl
        have hk := hka (by omega)
        have hv2 : v = kb.2 := by rw [hv, (f2.same 101 rfl).2, (c2.same 101 rfl).2]; exact eRb
        rw [hv2]
        exact c_r_name hsL (d + 1) (by omega) kb.2 z x8 t2 K' f1 (by omega) (by omega) (by omega) (by omega) (fun z3 t3 i1 i2 i3 i4 i5 i6 i7 => hK' z3 t3 ⟨i1, i2, i3, i4, i5, i6, by rw [← c3]; exact i7⟩)
      · rintro k0 z t z2 t2 z3 t3 ⟨c1, c2, c3, c4, c5, c6, c7⟩ ⟨f1, f2, f3, f4, f5, f6, f7⟩ ⟨i1, i2, i3, i4, i5, i6, i7⟩ v w hv hw K' hK'
        obtain ⟨_, hk0, _, C, D, hx⟩ := hka (by omega)
        subst hx eA eB
        have hv2 : v = u.2.1 102 ja := by rw [hv, (c2.same 102 rfl).2, a2]
        have hw2 : w = u.2.1 102 jb := by rw [hw, (f2.same 102 rfl).2, (c2.same 102 rfl).2, b2]
        rw [hv2, hw2]
        exact vr_ut_lam ih u1 hMu hphu hRu hVu tA tB kA kB (by omega) hk0 (by omega) (by omega) bu71 bu58 i1 c2 c3 c4 c5 c6 c7 f2 f3 f4 f5 f6 f7 i2 i3 i4 i5 i6 (by rw [c3]; exact i7) hK'
      · intro h3 h3' heq K' hK'
        exact c_v_meet hsL (d + 1) (by omega) NA NB A B yA yB x WA WB pa pb (pa + pb) x5 x6 x7 x8 u g AR K' u1 hMu hphu hRu hVu tA tB kA kB h3 h3' heq (ho h3) hK'
      · intro h3 h3' hne K' hK'
        exact c_v_join hsL (d + 1) (by omega) NA NB A B yA yB x WA WB pa pb (pa + pb) x5 x6 x7 x8 u g AR K' u1 hMu hphu hRu hVu tA tB kA kB h3 h3' hne (ho h3) (ho2 h3') hK'
      · intro h3 h3' K' hK'
        exact c_v_bind hsL NA NB A B yA yB x WA WB pa pb (pa + pb) (d + 1) x5 x6 x7 x8 u g AR K' (by omega) u1 hMu hphu hRu hVu tA tB kA kB h3 h3' (ho h3) (by omega) (by omega) hK'
      · intro h3 h0 h3' K' hK'
        exact c_v_bind hsL NB NA B A yB yA x WB WA pb pa (pa + pb) (d + 1) x7 x8 x5 x6 u g AR K' (by omega) u1 hMu hphu hRu hVu tB tA kB kA h3' h3 (ho2 h3') (by omega) (by omega) (fun z t ht => hK' z t (vr_PU_sym u1 hVu ht))
      · rintro z t ⟨c1, _⟩
        exact c1
      · intro z t ht
        exact hK z t (vr_UB_PU hI hM hV hB (by omega) (fun th hS => by rw [u58]; exact hPP th hS) ht)
      · intro h2 v hv K' hK'
        rw [eRa] at hv
        rw [hv]
        have h101 := u1.arr 101 (by decide) rfl x5.toNat
        rw [eRa] at h101
        exact c_r_look hsL 100 (d + 1) (by omega) yA x6 ka.2 u K' u1 (by have := yA4.2.2.2; omega) yA4.1 h101 hK'
      · intro h2 h3'
        refine ⟨_, rf_lex1 (by decide), Or.inr (Or.inr (Or.inr (Or.inl (⟨rfl, NA, NB, A, B, yA, yB, WA, WB, pa, pb, x5, x6, x7, x8, _, rfl, ⟨⟨hB, kA, kB, hpa, hpb⟩, ⟨tA, tB⟩, hPP⟩, ?_, ?_, ?_, rfl⟩))))⟩
        · unfold rf_hv
          rw [if_pos h2, eRa]
        · exact Or.inr h2
        · have := hkbN (by omega)
          unfold rf_hk
          omega
      · intro h0 h2 h3 h3' v hv
        refine ⟨_, rf_lex1 (by decide), Or.inr (Or.inr (Or.inr (Or.inl (⟨rfl, NA, NB, A, B, yA, yB, WA, WB, pa, pb, x5, x6, x7, x8, v, rfl, ⟨⟨hB, kA, kB, hpa, hpb⟩, ⟨tA, tB⟩, hPP⟩, ?_, ?_, ?_, rfl⟩))))⟩
        · unfold rf_hv
          rw [if_neg h2]
          exact hv
        · unfold rf_hk
          omega
        · have := hkbN (by omega)
          unfold rf_hk
          omega
    · -- 403
      obtain ⟨⟨hB, kA, kB, hpa, hpb⟩, ⟨tA, tB⟩, hPP⟩ := hU
      obtain ⟨hMu, hphu, hRu, hqu⟩ := rf_UB_M hB hM hph hR2
      have eS : vr_S u g AR = vr_S s g AR := vr_UB_S hB hM
      have hVu : vr_G u g AR := vr_G_up hB.1.2.1 (rf_EG_refl _ _) hB.1.2.2.1 (fun _ _ => rfl) hV
      have u1 := hB.1.1
      have u70 := hRu.2.2.2.2.1
      have pA := rf_CL_b u1 kA
      have pB := rf_CL_b u1 kB
      have yB4 := kB.1.2.2.2
      refine w_unify_403 (lk := rf_look yB (u.2.1 101 x7.toNat)) u1 pA pB ?_ ?_ ?_
      · intro h2 v hv K' hK'
        rw [hv]
        exact c_r_look hsL 100 (d + 1) (by omega) yB x8 _ u K' u1 (by have := yB4.2.2.2; omega) yB4.1 (u1.arr 101 (by decide) rfl _) hK'
      · intro h2
        refine ⟨_, rf_lex2 (by omega), Or.inr (Or.inr (Or.inr (Or.inr (Or.inl (⟨rfl, NA, NB, A, B, yA, yB, WA, WB, pa, pb, x5, x6, x7, x8, x9, _, rfl, ⟨⟨hB, kA, kB, hpa, hpb⟩, ⟨tA, tB⟩, hPP⟩, hv, ?_, hk, hk2, rfl⟩)))))⟩
        unfold rf_hv
        rw [if_pos h2]
      · intro h2 v hvv
        refine ⟨_, rf_lex2 (by omega), Or.inr (Or.inr (Or.inr (Or.inr (Or.inl (⟨rfl, NA, NB, A, B, yA, yB, WA, WB, pa, pb, x5, x6, x7, x8, x9, v, rfl, ⟨⟨hB, kA, kB, hpa, hpb⟩, ⟨tA, tB⟩, hPP⟩, hv, ?_, hk, hk2, rfl⟩)))))⟩
        unfold rf_hv
        rw [if_neg h2]
        exact hvv
    · -- 439
      obtain ⟨⟨hB, kA, kB, hpa, hpb⟩, ⟨tA, tB⟩, hPP⟩ := hU
      obtain ⟨hMu, hphu, hRu, hqu⟩ := rf_UB_M hB hM hph hR2
      have eS : vr_S u g AR = vr_S s g AR := vr_UB_S hB hM
      have hVu : vr_G u g AR := vr_G_up hB.1.2.1 (rf_EG_refl _ _) hB.1.2.2.1 (fun _ _ => rfl) hV
      have u1 := hB.1.1
      have pA := rf_CL_b u1 kA
      have pB := rf_CL_b u1 kB
      have hpA : 1 ≤ pa := by
        have h1 := rf_wy_pos kA.2.2.2 hphu
        obtain ⟨ja, ka, ua, fa, na, eA, _⟩ := rf_CL_node kA
        subst eA
        have := rf_wh_pos (j := ja) (k := ka) (u := ua) (f := fa) (x := na)
        omega
      have hpB : 1 ≤ pb := by
        have h1 := rf_wy_pos kB.2.2.2 hphu
        obtain ⟨ja, ka, ua, fa, na, eA, _⟩ := rf_CL_node kB
        subst eA
        have := rf_wh_pos (j := ja) (k := ka) (u := ua) (f := fa) (x := na)
        omega
      have vtA := tA
      have vtB := tB
      obtain ⟨hx, hr9, wA, cA, tA⟩ := rf_hk_CL u1 kA hk hv hpA
      obtain ⟨_, hr10, wB, cB, tB⟩ := rf_hk_CL u1 kB hk2 hv2 hpB
      refine w_vunify_439 u1 pA pB hr9 hr10 ?_ ?_
      · intro hne
        refine hK 0 u (vr_PU_0 u1 hB.1.2.2.2 (fun th hS hp => hne ?_))
        have hp2 : vr_V th AR A yA (s.1 66 58) = vr_V th AR B yB (s.1 66 58) := (hPP th hS).mpr hp
        rw [(vr_hk_V kA hk hv vtA).2 th, (vr_hk_V kB hk2 hv2 vtB).2 th] at hp2
        obtain ⟨z1, z2, _⟩ := vx_n_eq hp2
        exact ⟨z1, z2⟩
      · intro hkk hxx v w hvv hww
        have hw : wA = wB := by
          rcases tA with ⟨z1, z2⟩ | ⟨z1, z2⟩
          · rcases tB with ⟨y1, y2⟩ | ⟨y1, y2⟩
            · rw [← hxx] at y2
              exact rf_vb_inj z2 y2
            · omega
          · rcases tB with ⟨y1, y2⟩ | ⟨y1, y2⟩
            · omega
            · rw [← hxx] at y2
              exact rf_ty_inj z2 y2
        subst hw
        have hUL0 : vr_UL s u g g AR AR (rf_fst A) (rf_fst B) yA yB P0 := by
          refine ⟨hVu, fun _ _ => rfl, ⟨(vr_hk_V (L := 0) kA hk hv vtA).1, (vr_hk_V (L := 0) kB hk2 hv2 vtB).1⟩, fun _ => ?_⟩
          rw [eS]
          have u58 := hB.2.2.1
          have key : ∀ th, vx_So (vr_S s g AR) th → (vr_XE AR (rf_fst A) yA (rf_fst B) yB (u.1 66 58) th ↔ P0 th) := fun th hS => by
            rw [← hPP th hS, u58]
            unfold vr_E vr_XE
            rw [(vr_hk_V kA hk hv vtA).2 th, (vr_hk_V kB hk2 hv2 vtB).2 th, hkk, hxx]
            constructor
            · intro q
              rw [q]
            · intro q
              exact (vx_n_eq q).2.2.1
          exact ⟨vx_le_refl _, fun th hT hr => (key th hT).mp hr, fun th hS hp => ⟨th, hS, vr_ag_refl _ _, (key th hS).mpr hp⟩⟩
        rw [← hww] at cA
        rw [← hvv] at cB
        exact ⟨_, rf_lex2 (by omega), Or.inr (Or.inr (Or.inr (Or.inr (Or.inr (⟨rfl, NA, NB, rf_fst A, rf_fst B, yA, yB, WA, WB, pa - 1, pb - 1, pa0 + pb0 - (pa + pb), wA, g, AR, x6, x8, v, w, rfl, ⟨rf_UL_0 hB hM hph hR2 _ (by omega), hUL0⟩, by omega, cA, cB, by omega, by omega, rfl⟩)))))⟩
    · -- 483
      have hL2 := hL
      obtain ⟨⟨l1, l2, l3, l4, l5⟩, ⟨l6, l6', l6''⟩, ⟨l7, l8⟩, ⟨l9, l10⟩, l11, l12⟩ := hL
      have rA := rf_nd_rng cA.1.1
      have rB := rf_nd_rng cB.1.1
      have ru := l1.fld 66 50 (by decide) rfl
      have nA := rf_CR_nil cA
      have nB := rf_CR_nil cB
      refine w_unify_483 (PF := fun z t => x12 ≠ -1 ∧ vr_PU u t g1 AR1 z (p1 + p2) (vr_E AR1 fa yA fb yB (u.1 66 58))) l1 (by omega) (by omega) (fun q c => q (nA.1.mpr (nA.2.mpr (nB.2.mp (nB.1.mp c))))) ?_ ?_ ?_ ?_ ?_ ?_
      · intro hx
        have ea := nA.1.mp hx
        have eb := nB.2.mpr (nA.2.mp ea)
        rw [ea, eb] at hLV
        exact hK 1 u (vr_UL_end hL2 he hLV)
      · intro hx K' hK'
        have hx2 : x11 ≠ -1 := fun c => hx (nA.1.mpr (nA.2.mpr (nB.2.mp (nB.1.mp c))))
        obtain ⟨C, D, e1, k1, n1, c1, i1, ja, ka, ua, ffa, za⟩ := rf_CR_cons cA hx
        obtain ⟨C', D', e2, k2, n2, c2, i2, jb, kb, ub, ffb, zb⟩ := rf_CR_cons cB hx2
        rw [e1] at e2
        cases e2
        have ta : vr_t u AR1 fa := by
          have := hLV.2.2.1.1
          rw [za] at this ⊢
          exact this.1
        have tb : vr_t u AR1 fb := by
          have := hLV.2.2.1.2
          rw [zb] at this ⊢
          exact this.1
        have ar : (rf_qu s - rf_qu u) * (p1 + p2) + (rf_qu u + 1) * (p1 + p2) = (rf_qu s + 1) * (p1 + p2) := by
          rw [← Nat.add_mul]
          congr 1
          omega
        have ar2 := rf_ar3 (e := e) (p' := p1 + p2) (p := pa0 + pb0) (M := rf_qu s + 1) he (by omega)
        exact ih NA NB fa fb yA yB C WA WB p1 p2 x12 x6 x11 x8 u g1 AR1 K' l1 l2 l6 l6' hLV.1 ta tb k1 k2 hp1 hp2 (by omega) (by omega) (fun z t ht => hK' z t ⟨hx, ht⟩)
      · rintro z t ⟨_, c1, c2, _⟩
        exact ⟨c2, c1⟩
      · rintro z t ⟨hx, c1, c2, c3, c0, _⟩ hz
        have hx2 : x11 ≠ -1 := fun c => hx (nA.1.mpr (nA.2.mpr (nB.2.mp (nB.1.mp c))))
        obtain ⟨C, D, e1, k1, n1, _, i1, ja, ka, ua, ffa, za⟩ := rf_CR_cons cA hx
        obtain ⟨C', D', e2, k2, n2, _, i2, jb, kb, ub, ffb, zb⟩ := rf_CR_cons cB hx2
        have hN := c0 hz
        rw [za, zb] at hN hLV
        exact hK 0 t (vr_PU_0 c2 (rf_FS_trans c3 l5) (vr_UL_no hLV hN))
      · rintro hx z t ⟨_, hP⟩ hz h70 a1 a2 v w ha1 ha2 hv hw
        have hx2 : x11 ≠ -1 := fun c => hx (nA.1.mpr (nA.2.mpr (nB.2.mp (nB.1.mp c))))
        obtain ⟨C, D, e1, k1, n1, c1, i1, j1, kk1, uu1, ff1, f1⟩ := rf_CR_cons cA hx
        obtain ⟨C', D', e2, k2, n2, c2, i2, j2, kk2, uu2, ff2, f2⟩ := rf_CR_cons cB hx2
        rw [e1] at e2
        cases e2
        obtain ⟨hUL, hE⟩ := rf_UL_b hI hL2 (vr_PU_rf hP) hz h70 ha1 ha2
        obtain ⟨o1, o2, o3⟩ := rf_back_f (a := a1) (b := a2) (t := t)
        have g71 : ((sx_uf (sx_uf t.1 66 71 a1) 66 58 a2, t.2) : sx_S).1 66 71 = u.1 66 71 := o2.trans ha1
        have g58 : ((sx_uf (sx_uf t.1 66 71 a1) 66 58 a2, t.2) : sx_S).1 66 58 = u.1 66 58 := o3.trans ha2
        have hv2 : v = u.2.1 103 x11.toNat := by rw [hv]; exact ((hE.2 x11.toNat).1 (by omega)).2.2.2.1
        have hw2 : w = u.2.1 103 x12.toNat := by rw [hw]; exact ((hE.2 x12.toNat).1 (by omega)).2.2.2.1
        have cA2 := rf_CR_up hE (by omega) (by omega) (rf_EG_refl u g1) l2.ub c1
        have cB2 := rf_CR_up hE (by omega) (by omega) (rf_EG_refl u g1) l2.ub c2
        rw [← hw2] at cA2
        rw [← hv2] at cB2
        subst f1
        subst f2
        have hULV := vr_UL_b (t := t) l1 l2 l3.1.2.1 hE ⟨rfl, o1 61 (by decide) (by decide)⟩ g58 hP hz h70 hLV
        exact ⟨_, rf_lex2 (by show rf_len n1 < rf_len n1 + 1; omega), Or.inr (Or.inr (Or.inr (Or.inr (Or.inr (⟨rfl, NA, NB, n1, n2, yA, yB, WA, WB, p1, p2, e, D, g1, AR1, x6, x8, v, w, rfl, ⟨hUL, hULV⟩, he, cA2, cB2, hp1, hp2, rfl⟩)))))⟩
      · rintro hx z t ⟨_, hP⟩ hz h70 v w hv hw
        have hx2 : x11 ≠ -1 := fun c => hx (nA.1.mpr (nA.2.mpr (nB.2.mp (nB.1.mp c))))
        obtain ⟨C, D, e1, k1, n1, c1, i1, j1, kk1, uu1, ff1, f1⟩ := rf_CR_cons cA hx
        obtain ⟨C', D', e2, k2, n2, c2, i2, j2, kk2, uu2, ff2, f2⟩ := rf_CR_cons cB hx2
        rw [e1] at e2
        cases e2
        obtain ⟨g2, AR2, hUL, hE, hG, g71, g58, hG2, hA2, hY2⟩ := vr_UL_m hL2 hP hz h70
        have hv2 : v = u.2.1 103 x11.toNat := by rw [hv]; exact ((hE.2 x11.toNat).1 (by omega)).2.2.2.1
        have hw2 : w = u.2.1 103 x12.toNat := by rw [hw]; exact ((hE.2 x12.toNat).1 (by omega)).2.2.2.1
        have cA2 := rf_CR_up hE g71 g58 hG l2.ub c1
        have cB2 := rf_CR_up hE g71 g58 hG l2.ub c2
        rw [← hw2] at cA2
        rw [← hv2] at cB2
        subst f1
        subst f2
        have hULV := vr_UL_n l1 l3.1.2.1 hE g58 hG2 hA2 hY2 (vr_rngR c1 hLV.2.2.1.1.2) (vr_rngR c2 hLV.2.2.1.2.2) hLV
        exact ⟨_, rf_lex2 (by show rf_len n1 < rf_len n1 + 1; omega), Or.inr (Or.inr (Or.inr (Or.inr (Or.inr (⟨rfl, NA, NB, n1, n2, yA, yB, WA, WB, p1, p2, e, D, g2, AR2, x6, x8, v, w, rfl, ⟨hUL, hULV⟩, he, cA2, cB2, hp1, hp2, rfl⟩)))))⟩
theorem c_v_unify {sL : Nat} {sx : Nat → Int32} (hsL : sL ≤ 3072) : ∀ P d : Nat, P + 150 ≤ d → vr_UT sL sx P d
  | 0, d, _ => by
    intro NA NB A B yA yB x WA WB pa pb a ba b bb s g AR K hI hM hph hR _ _ _ k _ hp
    obtain ⟨j, kk, uu, f, n, eA, _⟩ := rf_CL_node k
    subst eA
    have hpp := rf_wy_pos k.2.2.2 hph
    have hw1 := rf_wh_pos (j := j) (k := kk) (u := uu) (f := f) (x := n)
    omega
  | P + 1, d, hd => by
    obtain ⟨d, rfl⟩ : ∃ e, d = e + 2 := ⟨d - 2, by omega⟩
    exact vr_ut_ok hsL (by omega) (c_v_unify hsL P (d + 1) (by omega))
