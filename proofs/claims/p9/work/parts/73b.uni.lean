/-! ===== the reference: unify and the solutions, what it is made of ===== -/
theorem vr_PU_pre {s s1 t : sx_S} {g : rf_Gh} {AR : Nat → List Int} {z : Int} {p p' : Nat} {P P' : (Int → rf_N) → Prop} (hI : cx_I s) (hM : rf_MI (s.1 66 71) (s.1 66 58) s g) (hV : vr_G s g AR) (h50 : s1.1 66 50 = s.1 66 50) (hPP : ∀ th, vx_So (vr_S s g AR) th → (P' th ↔ P th)) (hE : rf_EX (s.1 66 71) (s.1 66 58) s s1) (hN : rf_NC s s1) (hF : rf_FS s s1) (h70 : s1.1 66 70 = s.1 66 70) (h71 : s.1 66 71 ≤ s1.1 66 71 ∧ s1.1 66 71 + (p' : Int) ≤ s.1 66 71 + (p : Int)) (h58 : s.1 66 58 ≤ s1.1 66 58 ∧ s1.1 66 58 + (p' : Int) ≤ s.1 66 58 + (p : Int)) (h : vr_PU s1 t g AR z p' P') : vr_PU s t g AR z p P := by
  obtain ⟨h1, h2, h3, h0, h4⟩ := h
  have eS : vr_S s1 g AR = vr_S s g AR := vr_S_NC hE hN h50 hM
  refine ⟨h1, h2, rf_FS_trans h3 hF, fun hz => ?_, fun hz => ?_⟩
  · have := h0 hz
    rw [eS] at this
    exact vr_N_cg (fun th hS hp => (hPP th hS).mpr hp) this
  obtain ⟨g', AR', k1, k2, k3, ⟨k4, k5, k6⟩, ⟨k7, k8⟩, ⟨k9, k10⟩, k11, k12, k13, k14, k15⟩ := h4 hz
  have hq := rf_NC_qu hE hN
  rw [hq] at k6 k8 k10 k12
  have a1 := rf_ar3 (e := (s1.1 66 71 - s.1 66 71).toNat) (p' := p') (p := p) (M := max 1 (rf_qu s - rf_qu t)) (by omega) (Nat.le_max_left _ _)
  have a2 := rf_ar3 (e := (s1.1 66 58 - s.1 66 58).toNat) (p' := p') (p := p) (M := max 1 (rf_qu s - rf_qu t)) (by omega) (Nat.le_max_left _ _)
  rw [eS] at k15
  refine ⟨g', AR', k1, rf_EX_trans k2 hE (by omega) (by omega), rf_EG_trans hE k3 (rf_EG_refl _ _), ⟨k4, k5, k6⟩, ⟨by omega, by omega⟩, ⟨by omega, by omega⟩, fun q => ?_, fun q => k12 (by omega), k13, fun j hj => k14 j (by omega), vr_Y_cg (vr_W hI hV) hPP k15⟩
  have := k11 (by omega)
  exact ⟨this.1.trans hN.1, fun j hj => (this.2 j (by have := hN.1; omega)).trans (hN.2 j hj)⟩
theorem vr_UB_S {s u : sx_S} {g : rf_Gh} {AR : Nat → List Int} {p p' : Nat} (h : rf_UB s u p p') (hM : rf_MI (s.1 66 71) (s.1 66 58) s g) : vr_S u g AR = vr_S s g AR := vr_S_NC h.1.2.1 h.1.2.2.1 h.2.2.2.1 hM
theorem vr_UB_PU {s u t : sx_S} {g : rf_Gh} {AR : Nat → List Int} {z : Int} {p p' : Nat} {P P' : (Int → rf_N) → Prop} (hI : cx_I s) (hM : rf_MI (s.1 66 71) (s.1 66 58) s g) (hV : vr_G s g AR) (h : rf_UB s u p p') (hp : p' ≤ p) (hPP : ∀ th, vx_So (vr_S s g AR) th → (P' th ↔ P th)) (k : vr_PU u t g AR z p' P') : vr_PU s t g AR z p P := by
  obtain ⟨⟨a1, a2, a3, a4⟩, ⟨b1, b2⟩, c1, c2, c3, c4, c5, c6⟩ := h
  exact vr_PU_pre hI hM hV c2 hPP a2 a3 a4 c6 ⟨b1, b2⟩ ⟨by omega, by omega⟩ k
/-- solved but for R -/
def vr_UQ (S T : vx_S) (P R : (Int → rf_N) → Prop) : Prop := True → vx_le S T ∧ (∀ th, vx_So T th → R th → P th) ∧ ∀ th, vx_So S th → P th → ∃ th', vx_So T th' ∧ vx_ag S.1 th th' ∧ R th'
/-- two rows are the same -/
def vr_XE (AR : Nat → List Int) (A : rf_N) (yA : rf_Y) (B : rf_N) (yB : rf_Y) (L : Int) (th : Int → rf_N) : Prop := vr_X th AR A yA L = vr_X th AR B yB L
def vr_UL (s u : sx_S) (g g1 : rf_Gh) (AR AR1 : Nat → List Int) (fa fb : rf_N) (yA yB : rf_Y) (P : (Int → rf_N) → Prop) : Prop := vr_G u g1 AR1 ∧ (∀ j : Nat, (j : Int) < s.1 66 50 → AR1 j = AR j) ∧ (vr_r u AR1 fa ∧ vr_r u AR1 fb) ∧ vr_UQ (vr_S s g AR) (vr_S u g1 AR1) P (vr_XE AR1 fa yA fb yB (u.1 66 58))
theorem vr_UL_end {s u : sx_S} {g g1 : rf_Gh} {AR AR1 : Nat → List Int} {yA yB : rf_Y} {P : (Int → rf_N) → Prop} {e p' p : Nat} (h : rf_UL s u g g1 e p') (hp : e + p' ≤ p) (k : vr_UL s u g g1 AR AR1 .leaf .leaf yA yB P) : vr_PU s u g AR 1 p P := by
  obtain ⟨⟨h1, h2, h3, h4, h5⟩, h6, ⟨h7, h8⟩, ⟨h9, h10⟩, h11, h12⟩ := h
  have a1 := rf_ar2 (D := rf_qu s - rf_qu u) hp
  obtain ⟨k1, k2, _, k4⟩ := k
  obtain ⟨q1, q2, q3⟩ := k4 trivial
  refine ⟨by omega, h1, h5, fun q => absurd q (by decide), fun _ => ⟨g1, AR1, h2, h3, h4, h6, ⟨h7, by omega⟩, ⟨h9, by omega⟩, h11, h12, k1, k2, fun _ => ⟨q1, fun th hT => q2 th hT rfl, fun th hS hp => ?_⟩⟩⟩
  obtain ⟨th', z1, z2, _⟩ := q3 th hS hp
  exact ⟨th', z1, z2⟩
/-- a part cannot be solved -/
theorem vr_UL_no {s u : sx_S} {g g1 : rf_Gh} {AR AR1 : Nat → List Int} {ja jb : Nat} {ka kb : Int × Int} {ua ub : Unit} {fa fb na nb : rf_N} {yA yB : rf_Y} {P : (Int → rf_N) → Prop} (h : vr_UL s u g g1 AR AR1 (.inner ja ka ua fa na) (.inner jb kb ub fb nb) yA yB P) (hN : vr_N (vr_S u g1 AR1) (vr_E AR1 (.inner ja ka ua fa na) yA (.inner jb kb ub fb nb) yB (u.1 66 58))) : vr_N (vr_S s g AR) P := fun th hS hp => by
  obtain ⟨th', q1, q2, q3⟩ := (h.2.2.2 trivial).2.2 th hS hp
  exact hN th' q1 ((vr_X_eq (fun m => (q1.1 m).1)).mp q3).1
/-- a part that solved nothing is forgotten -/
theorem vr_UL_b {s u t v : sx_S} {g g1 : rf_Gh} {AR AR1 : Nat → List Int} {ja jb : Nat} {ka kb : Int × Int} {ua ub : Unit} {fa fb na nb : rf_N} {yA yB : rf_Y} {P : (Int → rf_N) → Prop} {p' : Nat} {z : Int} (hIu : cx_I u) (hMu : rf_MI (u.1 66 71) (u.1 66 58) u g1) (h50 : s.1 66 50 ≤ u.1 66 50) (hE : rf_EX (u.1 66 71) (u.1 66 58) u v) (hv : v.2.1 111 = t.2.1 111 ∧ v.1 66 61 = t.1 66 61) (h58 : v.1 66 58 = u.1 66 58) (k : vr_PU u t g1 AR1 z p' (vr_E AR1 (.inner ja ka ua fa na) yA (.inner jb kb ub fb nb) yB (u.1 66 58))) (hz : z ≠ 0) (h70 : t.1 66 70 = u.1 66 70) (h : vr_UL s u g g1 AR AR1 (.inner ja ka ua fa na) (.inner jb kb ub fb nb) yA yB P) : vr_UL s v g g1 AR AR1 na nb yA yB P := by
  obtain ⟨h1, h2, ⟨h3, h4⟩, h5⟩ := h
  obtain ⟨_, _, _, _, k4⟩ := k
  obtain ⟨g', AR', j1, j2, j3, j4, j5, j6, j7, j8, j9, j10, j11⟩ := k4 hz
  have hn := j7 h70
  have hNv : rf_NC u v := ⟨hv.2.trans hn.1, fun j hj => by rw [hv.1]; exact hn.2 j hj⟩
  obtain ⟨q1, q2, q3⟩ := h5 trivial
  obtain ⟨_, y2, _⟩ := j11 trivial
  have e1 : ∀ th, vx_So (vr_S v g1 AR1) th ↔ vx_So (vr_S u g1 AR1) th := fun th => vr_So_NC hIu hE (rf_EG_refl _ _) hNv hMu h1 (fun _ _ => rfl)
  have e2 : ∀ th, vx_So (vr_S t g' AR') th ↔ vx_So (vr_S u g1 AR1) th := fun th => vr_So_NC hIu j2 j3 hn hMu h1 j10
  refine ⟨vr_G_up hE (rf_EG_refl _ _) hNv (fun _ _ => rfl) h1, h2, ⟨(vr_t_up hE (fun _ _ => rfl)).2 h3.2, (vr_t_up hE (fun _ _ => rfl)).2 h4.2⟩, fun _ => ⟨vx_le_trans q1 (vr_le hE (rf_EG_refl _ _) hMu (fun _ _ => rfl)), fun th hT hr => ?_, fun th hS hp => ?_⟩⟩
  · rw [h58] at hr
    have hu := (e1 th).mp hT
    exact q2 th hu ((vr_X_eq (fun m => (hu.1 m).1)).mpr ⟨y2 th ((e2 th).mpr hu), hr⟩)
  · obtain ⟨th', z1, z2, z3⟩ := q3 th hS hp
    rw [h58]
    exact ⟨th', (e1 th').mpr z1, z2, ((vr_X_eq (fun m => (z1.1 m).1)).mp z3).2⟩
/-- a part that solved something -/
theorem vr_UL_n {s u t : sx_S} {g g1 g2 : rf_Gh} {AR AR1 AR2 : Nat → List Int} {ja jb : Nat} {ka kb : Int × Int} {ua ub : Unit} {fa fb na nb : rf_N} {yA yB : rf_Y} {P : (Int → rf_N) → Prop} (hIu : cx_I u) (h50 : s.1 66 50 ≤ u.1 66 50) (hE : rf_EX (u.1 66 71) (u.1 66 58) u t) (h58 : u.1 66 58 ≤ t.1 66 58) (hG2 : vr_G t g2 AR2) (hA : ∀ j : Nat, (j : Int) < u.1 66 50 → AR2 j = AR1 j) (hY : vr_Y (vr_S u g1 AR1) (vr_S t g2 AR2) (vr_E AR1 (.inner ja ka ua fa na) yA (.inner jb kb ub fb nb) yB (u.1 66 58))) (hra : ∀ z, vx_fv (fun _ _ => True) AR1 z (vr_c na) → 0 ≤ rf_look yA z ∧ rf_look yA z < u.1 66 58) (hrb : ∀ z, vx_fv (fun _ _ => True) AR1 z (vr_c nb) → 0 ≤ rf_look yB z ∧ rf_look yB z < u.1 66 58) (h : vr_UL s u g g1 AR AR1 (.inner ja ka ua fa na) (.inner jb kb ub fb nb) yA yB P) : vr_UL s t g g2 AR AR2 na nb yA yB P := by
  obtain ⟨h1, h2, ⟨h3, h4⟩, h5⟩ := h
  obtain ⟨q1, q2, q3⟩ := h5 trivial
  obtain ⟨y1, y2, y3⟩ := hY trivial
  have ra : ∀ z, vx_fv (fun _ _ => True) AR1 z (vr_c na) → rf_look yA z < u.1 66 58 ∧ rf_look yA z < t.1 66 58 := fun z hz => by
    have := hra z hz
    omega
  have rb : ∀ z, vx_fv (fun _ _ => True) AR1 z (vr_c nb) → rf_look yB z < u.1 66 58 ∧ rf_look yB z < t.1 66 58 := fun z hz => by
    have := hrb z hz
    omega
  have eX : ∀ th L, (vr_XE AR2 na yA nb yB L th ↔ vr_XE AR1 na yA nb yB L th) := fun th L => by
    unfold vr_XE
    rw [(vr_V_up hIu hA).2 h3.2, (vr_V_up hIu hA).2 h4.2]
  refine ⟨hG2, fun j hj => (hA j (by omega)).trans (h2 j hj), ⟨(vr_t_up hE hA).2 h3.2, (vr_t_up hE hA).2 h4.2⟩, fun _ => ⟨vx_le_trans q1 y1, fun th hT hr => ?_, fun th hS hp => ?_⟩⟩
  · have hu := vx_So_le (vr_W hIu h1) y1 hT
    have hr1 := (eX th _).mp hr
    have hr2 : vr_XE AR1 na yA nb yB (u.1 66 58) th := vr_shE hu.1 (L := t.1 66 58) (fun z hz => (ra z hz).symm) (fun z hz => (rb z hz).symm) hr1
    exact q2 th hu ((vr_X_eq (fun m => (hu.1 m).1)).mpr ⟨y2 th hT, hr2⟩)
  · obtain ⟨th', z1, z2, z3⟩ := q3 th hS hp
    obtain ⟨w1, w2⟩ := (vr_X_eq (fun m => (z1.1 m).1)).mp z3
    obtain ⟨th2, x1, x2⟩ := y3 th' z1 w1
    refine ⟨th2, x1, vr_ag_tr q1.1.1 z2 x2, (eX th2 _).mpr ?_⟩
    have w3 : vr_XE AR1 na yA nb yB (u.1 66 58) th2 := by
      unfold vr_XE
      rw [(vr_V_ag hIu x2).2 h3.2, (vr_V_ag hIu x2).2 h4.2]
      exact w2
    exact vr_shE x1.1 (L := u.1 66 58) ra rb w3
/-- under way to two heads, \ or open unknowns -/
def vr_U2 (s u : sx_S) (g : rf_Gh) (AR : Nat → List Int) (P : (Int → rf_N) → Prop) (x : rf_T) (pa0 pb0 : Nat) (NA NB : Int → rf_T → Prop) (A B : rf_N) (yA yB : rf_Y) (WA WB : List Nat) (pa pb : Nat) (x5 x6 x7 x8 : Int) : Prop := rf_U2 s u g x pa0 pb0 NA NB A B yA yB WA WB pa pb x5 x6 x7 x8 ∧ (vr_t u AR A ∧ vr_t u AR B) ∧ ∀ th, vx_So (vr_S s g AR) th → (vr_E AR A yA B yB (s.1 66 58) th ↔ P th)
def vr_UT (sL : Nat) (sx : Nat → Int32) (P d : Nat) : Prop := ∀ (NA NB : Int → rf_T → Prop) (A B : rf_N) (yA yB : rf_Y) (x : rf_T) (WA WB : List Nat) (pa pb : Nat) (a ba b bb : Int) (s : sx_S) (g : rf_Gh) (AR : Nat → List Int) (K : Int → sx_S → Prop), cx_I s → rf_MI (s.1 66 71) (s.1 66 58) s g → rf_ph s g ≤ 1150 → rf_RM 0 s → vr_G s g AR → vr_t s AR A → vr_t s AR B → rf_CL s g NA A yA x WA pa a ba → rf_CL s g NB B yB x WB pb b bb → pa ≤ P → pb ≤ P → s.1 66 71 + (((rf_qu s + 1) * (pa + pb) : Nat) : Int) ≤ 390000 → s.1 66 58 + (((rf_qu s + 1) * (pa + pb) : Nat) : Int) ≤ 390000 → (∀ z t, vr_PU s t g AR z (pa + pb) (vr_E AR A yA B yB (s.1 66 58)) → K z t) → sx_C sL sx d 194 [.inr (.inl 66), .inl a, .inl ba, .inl b, .inl bb] s K
theorem vr_en_C {sL : Nat} {sx : Nat → Int32} (hsL : sL ≤ 3072) {d : Nat} (hd : 104 ≤ d) {N : Int → rf_T → Prop} {A : rf_N} {y : rf_Y} {x : rf_T} {W : List Nat} {p : Nat} {i b nb ib : Int} {s : sx_S} {g : rf_Gh} {AR : Nat → List Int} {K : Int → sx_S → Prop} (hI : cx_I s) (hV : vr_G s g AR) (tA : vr_t s AR A) (hM : rf_MI nb ib s g) (hnb : nb ≤ s.1 66 71) (hib : ib ≤ s.1 66 58) (hph : rf_ph s g ≤ 1150) (h70 : s.1 66 70 ≤ 100) (k : rf_CL s g N A y x W p i b) (h3 : s.2.1 100 i.toNat = 3) (hs : s.2.1 111 (s.2.1 101 i.toNat).toNat ≠ 0) (h71 : s.1 66 71 ≤ 399980) (hK : ∀ z t, cx_I t → cx_F [(66, 66), (115, 117)] s t → rf_f [71] s t → rf_ag 115 117 (s.1 66 71) s t → (s.1 66 71 ≤ t.1 66 71 ∧ t.1 66 71 ≤ s.1 66 71 + 5) → x = .leaf → 5 ≤ p → (∃ (N' : Int → rf_T → Prop) (A' : rf_N) (y' : rf_Y) (W' : List Nat), rf_CL t g N' A' y' .leaf W' (p - 5) (t.2.1 113 (s.2.1 101 i.toNat).toNat) z ∧ vr_t t AR A' ∧ ∀ th, vx_So (vr_S s g AR) th → ∀ L, vr_V th AR A y L = vr_V th AR A' y' L) → K z t) : sx_C sL sx d 188 [.inr (.inl 66), .inl i, .inl b] s K := by
  have pA := rf_CL_b hI k
  obtain ⟨hr, hbn, hx, j, kk, uu, f, n, eA, ej, k3, ek⟩ := rf_CL_3 k h3
  subst eA
  rw [← ek] at hr hbn hs
  have kN := k.1.2.2.2
  have dY : rf_dp y ≤ 100 := by have := kN.2.2.2; omega
  have hSV := (hM.1 kk.2 hr.1 hr.2).2.2.2 hs
  obtain ⟨_, ⟨sb1, _⟩, ⟨⟨sc1, sc2⟩, sc3, _⟩, _⟩ := hSV
  have r61 := hI.fld 66 61 (by decide) rfl
  have r56 := hI.fld 66 56 (by decide) rfl
  have r108 := hI.arr 108 (by decide) rfl kk.2.toNat
  have raa : rf_aa s kk.2 = s.2.1 108 kk.2.toNat := rfl
  refine c_r_enter hsL 100 d (by omega) y (g.2.1 kk.2) i b kk.2 s K hI pA ek (by omega) h71 (fun q hq => ?_) dY kN.1 (rf_by_mono (fun _ _ => ⟨rfl, rfl, rfl⟩) hnb sb1) (fun z t c1 c2 c3 c4 c5 c6 => ?_)
  · refine ⟨by omega, by omega, ?_⟩
    have := sc3 q (by omega)
    unfold rf_fm at this
    rcases this with ⟨T, _, t2⟩ | z
    · have := t2.1.1
      omega
    · omega
  · obtain ⟨hE, _⟩ := rf_EX_name (ib := s.1 66 58) c2 c3 c4
    obtain ⟨e1, e2, e3⟩ := rf_CL_en (t := t) (z := z) hM hib hph k k3 hs hE c5.1 (c3 58 rfl) c6
    have e4 : s.2.1 113 kk.2.toNat = t.2.1 113 (s.2.1 101 i.toNat).toNat := by rw [(c2.same 113 rfl).2, ← ek]
    rw [e4] at e3
    have hvp : vr_p s AR j kk.2 := by
      rcases tA.2 with ⟨q, _⟩ | ⟨_, q⟩ | ⟨q, _⟩
      · omega
      · exact q
      · omega
    exact hK z t c1 c2 c3 c4 (by omega) hx e2 ⟨_, _, _, _, e3, (vr_t_up hE (fun _ _ => rfl)).1 (hV kk.2 hr.1 hr.2 hs), fun th hS L => vr_V_en hI hM hS k3 hvp hs ej⟩
theorem vr_ut_lam {sL : Nat} {sx : Nat → Int32} {P d : Nat} (ih : vr_UT sL sx P d) {NA NB : Int → rf_T → Prop} {ja jb : Nat} {ka kb : Int × Int} {ua ub : Unit} {fa na fb nb : rf_N} {yA yB : rf_Y} {C D : rf_T} {WA WB : List Nat} {pa pb : Nat} {a ba b bb v z2 z3 : Int} {u t1 t2 t3 : sx_S} {g : rf_Gh} {AR : Nat → List Int} {K : Int → sx_S → Prop} (hI : cx_I u) (hM : rf_MI (u.1 66 71) (u.1 66 58) u g) (hph : rf_ph u g ≤ 1150) (hR : rf_RM 0 u) (hV : vr_G u g AR) (tA : vr_t u AR (.inner ja ka ua fa na)) (tB : vr_t u AR (.inner jb kb ub fb nb)) (kA : rf_CL u g NA (.inner ja ka ua fa na) yA (rf_a C D) WA pa a ba) (kB : rf_CL u g NB (.inner jb kb ub fb nb) yB (rf_a C D) WB pb b bb) (ha0 : ka.1 = 0) (hb0 : kb.1 = 0) (hpa : pa ≤ P + 1) (hpb : pb ≤ P + 1) (h71 : u.1 66 71 + (((rf_qu u + 1) * (pa + pb) : Nat) : Int) ≤ 390000) (h58 : u.1 66 58 + (((rf_qu u + 1) * (pa + pb) : Nat) : Int) ≤ 390000) (a1 : cx_I t3) (v2 : cx_F [(66, 66), (106, 106)] u t1) (v3 : v = u.1 66 58) (v4 : t1.1 66 58 = u.1 66 58 + 1) (v5 : rf_f [58] u t1) (v6 : rf_ag 106 106 (u.1 66 58) u t1) (v7 : t1.2.1 106 v.toNat = u.2.1 106 ka.2.toNat) (n2 : cx_F [(66, 66), (115, 117)] t1 t2) (n3 : z2 = t1.1 66 71) (n4 : t2.1 66 71 = t1.1 66 71 + 1) (n5 : rf_f [71] t1 t2) (n6 : rf_ag 115 117 (t1.1 66 71) t1 t2) (n7 : rf_nm t2 z2 ka.2 v ba) (m2 : cx_F [(66, 66), (115, 117)] t2 t3) (m3 : z3 = t2.1 66 71) (m4 : t3.1 66 71 = t2.1 66 71 + 1) (m5 : rf_f [71] t2 t3) (m6 : rf_ag 115 117 (t2.1 66 71) t2 t3) (m7 : rf_nm t3 z3 kb.2 v bb) (hK : ∀ z t, vr_PU u t g AR z (pa + pb) (vr_E AR (.inner ja ka ua fa na) yA (.inner jb kb ub fb nb) yB (u.1 66 58)) → K z t) : sx_C sL sx d 194 [.inr (.inl 66), .inl (u.2.1 102 ja), .inl z2, .inl (u.2.1 102 jb), .inl z3] t3 K := by
  have r58 := hI.fld 66 58 (by decide) rfl
  have r71 := hI.fld 66 71 (by decide) rfl
  have e71 := v5 71 rfl
  have f58 := n5 58 rfl
  have g58 := m5 58 rfl
  obtain ⟨hE1, hF1⟩ := rf_EX_var (nb := u.1 66 71) v2 v5 v6 (by omega)
  obtain ⟨hE2, hF2⟩ := rf_EX_name (ib := u.1 66 58) n2 n5 n6
  obtain ⟨hE3, hF3⟩ := rf_EX_name (ib := u.1 66 58) m2 m5 m6
  have hE : rf_EX (u.1 66 71) (u.1 66 58) u t3 := rf_EX_trans hE3 (rf_EX_trans hE2 hE1 (by omega) (Int.le_refl _)) (by omega) (Int.le_refl _)
  have hF := rf_FS_trans hF3 (rf_FS_trans hF2 hF1)
  have c1 : rf_NC u t1 := rf_NC_F v2 rfl v5 rfl
  have c2 : rf_NC t1 t2 := rf_NC_F n2 rfl n5 rfl
  have c3 : rf_NC t2 t3 := rf_NC_F m2 rfl m5 rfl
  have hN : rf_NC u t3 := ⟨c3.1.trans (c2.1.trans c1.1), fun q hq => (c3.2 q (by have := c1.1; have := c2.1; omega)).trans ((c2.2 q (by have := c1.1; omega)).trans (c1.2 q hq))⟩
  have hpA := rf_wy_pos kA.2.2.2 hph
  have hpB := rf_wy_pos kB.2.2.2 hph
  have hwA := rf_wh_pos (j := ja) (k := ka) (u := ua) (f := fa) (x := na)
  have hwB := rf_wh_pos (j := jb) (k := kb) (u := ub) (f := fb) (x := nb)
  have t106 : ∀ q, t3.2.1 106 q = t1.2.1 106 q := fun q => by rw [(m2.same 106 rfl).2, (n2.same 106 rfl).2]
  have nm2 : rf_nm t3 z2 ka.2 v ba := fun _ => by
    obtain ⟨q1, q2, q3⟩ := n7 trivial
    exact ⟨by rw [m6 115 _ (by omega) (by omega) (by omega)]; exact q1, by rw [m6 116 _ (by omega) (by omega) (by omega)]; exact q2, by rw [m6 117 _ (by omega) (by omega) (by omega)]; exact q3⟩
  -- both variables have one type
  have tyA : rf_vb (u.1 66 58) u ka.2 C := by
    rcases kA.1.2.1 with ⟨_, C', D', q, h2, _⟩ | ⟨q, _⟩
    · cases q
      exact rf_Hn_02 h2 (Or.inl ha0)
    · exact absurd ha0 q
  have klA := rf_CL_lam (t := t3) (z := z2) (v := v) hM.ub kA ha0 hE (by omega) (by omega) v3 r58.1 (by rw [t106]; exact v7) (by omega) nm2
  have klB : rf_CL t3 g NB fb (rf_one kb.2 v yB) D WB (pb - 1) (u.2.1 102 jb) z3 := by
    have kc := kB
    obtain ⟨⟨b1, b2, b3, b4⟩, ⟨d1, d2⟩, d3, d4⟩ := kB
    have hft := rf_fo_typed hM.ub b1 b2 b4
    obtain ⟨⟨m0, m1⟩, ⟨m2', m3'⟩, m4', m5'⟩ := b1
    rcases b2 with ⟨e, C', D', q1, q2, q3⟩ | ⟨e, _⟩
    · cases q1
      have q2v := rf_Hn_02 q2 (Or.inl e)
      have vt : rf_vb (t3.1 66 58) t3 kb.2 C := rf_vb_le (by omega) ((hE.vb (Int.le_refl _) _ _).mpr q2v)
      have vv : rf_vb (t3.1 66 58) t3 v C := by
        refine ⟨⟨by omega, by omega⟩, ?_⟩
        rw [t106, v7]
        exact (hE.is _ _).mpr tyA.2
      have hwh := rf_wh_0 (j := jb) (u := ub) (f := fb) (x := nb) hb0
      have hbn := (rf_bn_gn m4').1 _ q3
      have hU : ∀ r q, 0 ≤ r → r < u.1 66 61 → g.2.2 r q → g.2.2 r q ∧ (q : Int) < rf_aa u r := fun r q r0 r1 hq => ⟨hq, hM.ub r q r0 r1 hq⟩
      have hN0 : ∀ v T, ¬ NB v T := b3.2.elim (fun z => by have : kb.1 = 3 := z; omega) id
      refine ⟨⟨hE.no m4', (rf_gn_up hE (by omega) (fun _ _ z => z) m4').1 _ q3, ⟨b3.1, Or.inr hN0⟩, rf_NM_one b3.1 (by omega) m7 vt vv (rf_NM_up hE (by omega) (by omega) b4)⟩, ⟨(rf_di_up hE hU).1 hbn (d1.2.1 hb0), ?_⟩, by omega, rf_wy_le (fun z hz => Or.inr (Or.inl ⟨hb0, hz⟩)) (by omega) (rf_wy_up hE (rf_EG_refl u g) d4)⟩
      refine rf_ij_one (F := (rf_fo (rf_Wd u g.2.2) (.inner jb kb ub fb nb)).1) (fun w hw hne => Or.inr (Or.inl ⟨hb0, hne, (rf_Wd_up hE hU).1 hbn w hw⟩)) (fun w hw e => ?_) d2
      obtain ⟨T, hT⟩ := hft w hw
      have := hT.1.2
      omega
    · exact absurd hb0 e
  have hqu := rf_NC_qu hE hN
  have e50 := v5 50 rfl
  have e56 := v5 56 rfl
  have e64 := v5 64 rfl
  have e70 := v5 70 rfl
  have g50 := n5 50 rfl
  have g56 := n5 56 rfl
  have g64 := n5 64 rfl
  have g70 := n5 70 rfl
  have i50 := m5 50 rfl
  have i56 := m5 56 rfl
  have i64 := m5 64 rfl
  have i70 := m5 70 rfl
  have ta : vr_t u AR fa := by
    rcases tA.2 with ⟨_, q⟩ | ⟨q, _⟩ | ⟨q, _⟩
    · exact q
    · omega
    · omega
  have tb : vr_t u AR fb := by
    rcases tB.2 with ⟨_, q⟩ | ⟨q, _⟩ | ⟨q, _⟩
    · exact q
    · omega
    · omega
  refine ih NA NB fa fb _ _ D WA WB (pa - 1) (pb - 1) _ _ _ _ t3 g AR K a1 (rf_NC_MI hE hN (by omega) (by omega) hM) (by rw [rf_NC_ph hE hN]; exact hph) (rf_RM_same hR (by omega) (by omega) hN.1 (by omega) (by omega) hqu) (vr_G_up hE (rf_EG_refl _ _) hN (fun _ _ => rfl) hV) ((vr_t_up hE (fun _ _ => rfl)).1 ta) ((vr_t_up hE (fun _ _ => rfl)).1 tb) klA klB (by omega) (by omega) (by rw [hqu]; exact rf_bud h71 (by omega) (by omega)) (by rw [hqu]; exact rf_bud h58 (by omega) (by omega)) (fun z t ht => hK z t (vr_PU_pre hI hM hV (by omega) (fun th hS => ?_) hE hN hF (by omega) ⟨by omega, by omega⟩ ⟨by omega, by omega⟩ ht))
  unfold vr_E
  rw [vr_V_lam ha0, vr_V_lam hb0, show t3.1 66 58 = u.1 66 58 + 1 by omega, v3]
  constructor
  · intro q
    rw [q]
  · intro q
    exact (vx_n_eq q).2.2.1
