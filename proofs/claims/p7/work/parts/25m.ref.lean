/-! ===== the reference: unify ===== -/
def rf_UT (sL : Nat) (sx : Nat → Int32) (P d : Nat) : Prop := ∀ (NA NB : Int → rf_T → Prop) (A B : rf_N) (yA yB : rf_Y) (x : rf_T) (WA WB : List Nat) (pa pb : Nat) (a ba b bb : Int) (s : sx_S) (g : rf_Gh) (K : Int → sx_S → Prop), cx_I s → rf_MI (s.1 66 71) (s.1 66 58) s g → rf_ph s g ≤ 1150 → rf_RM 0 s → rf_CL s g NA A yA x WA pa a ba → rf_CL s g NB B yB x WB pb b bb → pa ≤ P → pb ≤ P → s.1 66 71 + (((rf_qu s + 1) * (pa + pb) : Nat) : Int) ≤ 390000 → s.1 66 58 + (((rf_qu s + 1) * (pa + pb) : Nat) : Int) ≤ 390000 → (∀ z t, rf_PU s t g z (pa + pb) → K z t) → sx_C sL sx d 194 [.inr (.inl 66), .inl a, .inl ba, .inl b, .inl bb] s K
theorem rf_bud {x y : Int} {q p p' : Nat} (hb : x + (((q + 1) * p : Nat) : Int) ≤ 390000) (h : y + (p' : Int) ≤ x + (p : Int)) (hp : p' ≤ p) : y + (((q + 1) * p' : Nat) : Int) ≤ 390000 := by
  have := rf_ar3 (e := p - p') (p' := p') (p := p) (M := q + 1) (by omega) (by omega)
  omega
theorem rf_bud1 {x : Int} {q p : Nat} (hb : x + (((q + 1) * p : Nat) : Int) ≤ 390000) : x + (p : Int) ≤ 390000 := by
  have : p ≤ (q + 1) * p := Nat.le_mul_of_pos_left _ (by omega)
  omega
def rf_U2 (s u : sx_S) (g : rf_Gh) (x : rf_T) (pa0 pb0 : Nat) (NA NB : Int → rf_T → Prop) (A B : rf_N) (yA yB : rf_Y) (WA WB : List Nat) (pa pb : Nat) (x5 x6 x7 x8 : Int) : Prop := rf_UB s u (pa0 + pb0) (pa + pb) ∧ rf_CL u g NA A yA x WA pa x5 x6 ∧ rf_CL u g NB B yB x WB pb x7 x8 ∧ pa ≤ pa0 ∧ pb ≤ pb0
/-- it is no solved unknown; what its head is called; it has a head -/
def rf_op (u : sx_S) (i : Int) : Prop := u.2.1 100 i.toNat = 3 → u.2.1 111 (u.2.1 101 i.toNat).toNat = 0
def rf_hv (u : sx_S) (y : rf_Y) (i v : Int) : Prop := v = (if u.2.1 100 i.toNat = 2 then rf_look y (u.2.1 101 i.toNat) else u.2.1 101 i.toNat)
def rf_hk (u : sx_S) (i : Int) : Prop := u.2.1 100 i.toNat = 1 ∨ u.2.1 100 i.toNat = 2
def rf_fst : rf_N → rf_N
  | .leaf => .leaf
  | .inner _ _ _ f _ => f
/-- an unknown of a way is entered -/
theorem rf_en_C {sL : Nat} {sx : Nat → Int32} (hsL : sL ≤ 3072) {d : Nat} (hd : 104 ≤ d) {N : Int → rf_T → Prop} {A : rf_N} {y : rf_Y} {x : rf_T} {W : List Nat} {p : Nat} {i b nb ib : Int} {s : sx_S} {g : rf_Gh} {K : Int → sx_S → Prop} (hI : cx_I s) (hM : rf_MI nb ib s g) (hnb : nb ≤ s.1 66 71) (hib : ib ≤ s.1 66 58) (hph : rf_ph s g ≤ 1150) (h70 : s.1 66 70 ≤ 100) (k : rf_CL s g N A y x W p i b) (h3 : s.2.1 100 i.toNat = 3) (hs : s.2.1 111 (s.2.1 101 i.toNat).toNat ≠ 0) (h71 : s.1 66 71 ≤ 399980) (hK : ∀ z t, cx_I t → cx_F [(66, 66), (115, 117)] s t → rf_f [71] s t → rf_ag 115 117 (s.1 66 71) s t → (s.1 66 71 ≤ t.1 66 71 ∧ t.1 66 71 ≤ s.1 66 71 + 5) → x = .leaf → 5 ≤ p → (∃ (N' : Int → rf_T → Prop) (A' : rf_N) (y' : rf_Y) (W' : List Nat), rf_CL t g N' A' y' .leaf W' (p - 5) (t.2.1 113 (s.2.1 101 i.toNat).toNat) z) → K z t) : sx_C sL sx d 188 [.inr (.inl 66), .inl i, .inl b] s K := by
  have pA := rf_CL_b hI k
  obtain ⟨hr, hbn, hx, j, kk, uu, f, n, eA, ej, k3, ek⟩ := rf_CL_3 k h3
  subst eA
  rw [← ek] at hr hbn hs
  have kN := k.1.2.2.2
  have dY : rf_dp y ≤ 100 := by have := kN.2.2.2; omega
  have hSV := (hM.1 kk.2 hr.1 hr.2).2.2.2 hs
  obtain ⟨_, ⟨sb1, _⟩, ⟨⟨sc1, sc2⟩, sc3, _⟩, _⟩ := hSV
  have r61 := hI.fld 66 61 (by decide) rfl
  have r56 := hI.fld 66 56 (by decide) rfl
  have r108 := hI.arr 108 (by decide) rfl kk.2.toNat
  have raa : rf_aa s kk.2 = s.2.1 108 kk.2.toNat := rfl
  refine c_r_enter hsL 100 d (by omega) y (g.2.1 kk.2) i b kk.2 s K hI pA ek (by omega) h71 (fun q hq => ?_) dY kN.1 (rf_by_mono (fun _ _ => ⟨rfl, rfl, rfl⟩) hnb sb1) (fun z t c1 c2 c3 c4 c5 c6 => ?_)
  · refine ⟨by omega, by omega, ?_⟩
    have := sc3 q (by omega)
    unfold rf_fm at this
    rcases this with ⟨T, _, t2⟩ | z
    · have := t2.1.1
      omega
    · omega
  · obtain ⟨hE, _⟩ := rf_EX_name (ib := s.1 66 58) c2 c3 c4
    obtain ⟨e1, e2, e3⟩ := rf_CL_en (t := t) (z := z) hM hib hph k k3 hs hE c5.1 (c3 58 rfl) c6
    have e4 : s.2.1 113 kk.2.toNat = t.2.1 113 (s.2.1 101 i.toNat).toNat := by rw [(c2.same 113 rfl).2, ← ek]
    rw [e4] at e3
    exact hK z t c1 c2 c3 c4 (by omega) hx e2 ⟨_, _, _, _, e3⟩
/-- under two LAMs -/
theorem rf_ut_lam {sL : Nat} {sx : Nat → Int32} {P d : Nat} (ih : rf_UT sL sx P d) {NA NB : Int → rf_T → Prop} {ja jb : Nat} {ka kb : Int × Int} {ua ub : Unit} {fa na fb nb : rf_N} {yA yB : rf_Y} {C D : rf_T} {WA WB : List Nat} {pa pb : Nat} {a ba b bb v z2 z3 : Int} {u t1 t2 t3 : sx_S} {g : rf_Gh} {K : Int → sx_S → Prop} (hI : cx_I u) (hM : rf_MI (u.1 66 71) (u.1 66 58) u g) (hph : rf_ph u g ≤ 1150) (hR : rf_RM 0 u) (kA : rf_CL u g NA (.inner ja ka ua fa na) yA (rf_a C D) WA pa a ba) (kB : rf_CL u g NB (.inner jb kb ub fb nb) yB (rf_a C D) WB pb b bb) (ha0 : ka.1 = 0) (hb0 : kb.1 = 0) (hpa : pa ≤ P + 1) (hpb : pb ≤ P + 1) (h71 : u.1 66 71 + (((rf_qu u + 1) * (pa + pb) : Nat) : Int) ≤ 390000) (h58 : u.1 66 58 + (((rf_qu u + 1) * (pa + pb) : Nat) : Int) ≤ 390000) (a1 : cx_I t3) (v2 : cx_F [(66, 66), (106, 106)] u t1) (v3 : v = u.1 66 58) (v4 : t1.1 66 58 = u.1 66 58 + 1) (v5 : rf_f [58] u t1) (v6 : rf_ag 106 106 (u.1 66 58) u t1) (v7 : t1.2.1 106 v.toNat = u.2.1 106 ka.2.toNat) (n2 : cx_F [(66, 66), (115, 117)] t1 t2) (n3 : z2 = t1.1 66 71) (n4 : t2.1 66 71 = t1.1 66 71 + 1) (n5 : rf_f [71] t1 t2) (n6 : rf_ag 115 117 (t1.1 66 71) t1 t2) (n7 : rf_nm t2 z2 ka.2 v ba) (m2 : cx_F [(66, 66), (115, 117)] t2 t3) (m3 : z3 = t2.1 66 71) (m4 : t3.1 66 71 = t2.1 66 71 + 1) (m5 : rf_f [71] t2 t3) (m6 : rf_ag 115 117 (t2.1 66 71) t2 t3) (m7 : rf_nm t3 z3 kb.2 v bb) (hK : ∀ z t, rf_PU u t g z (pa + pb) → K z t) : sx_C sL sx d 194 [.inr (.inl 66), .inl (u.2.1 102 ja), .inl z2, .inl (u.2.1 102 jb), .inl z3] t3 K := by
  have r58 := hI.fld 66 58 (by decide) rfl
  have r71 := hI.fld 66 71 (by decide) rfl
  have e71 := v5 71 rfl
  have f58 := n5 58 rfl
  have g58 := m5 58 rfl
  obtain ⟨hE1, hF1⟩ := rf_EX_var (nb := u.1 66 71) v2 v5 v6 (by omega)
  obtain ⟨hE2, hF2⟩ := rf_EX_name (ib := u.1 66 58) n2 n5 n6
  obtain ⟨hE3, hF3⟩ := rf_EX_name (ib := u.1 66 58) m2 m5 m6
  have hE : rf_EX (u.1 66 71) (u.1 66 58) u t3 := rf_EX_trans hE3 (rf_EX_trans hE2 hE1 (by omega) (Int.le_refl _)) (by omega) (Int.le_refl _)
  have hF := rf_FS_trans hF3 (rf_FS_trans hF2 hF1)
  have c1 : rf_NC u t1 := rf_NC_F v2 rfl v5 rfl
  have c2 : rf_NC t1 t2 := rf_NC_F n2 rfl n5 rfl
  have c3 : rf_NC t2 t3 := rf_NC_F m2 rfl m5 rfl
  have hN : rf_NC u t3 := ⟨c3.1.trans (c2.1.trans c1.1), fun q hq => (c3.2 q (by have := c1.1; have := c2.1; omega)).trans ((c2.2 q (by have := c1.1; omega)).trans (c1.2 q hq))⟩
  have hpA := rf_wy_pos kA.2.2.2 hph
  have hpB := rf_wy_pos kB.2.2.2 hph
  have hwA := rf_wh_pos (j := ja) (k := ka) (u := ua) (f := fa) (x := na)
  have hwB := rf_wh_pos (j := jb) (k := kb) (u := ub) (f := fb) (x := nb)
  have t106 : ∀ q, t3.2.1 106 q = t1.2.1 106 q := fun q => by rw [(m2.same 106 rfl).2, (n2.same 106 rfl).2]
  have nm2 : rf_nm t3 z2 ka.2 v ba := fun _ => by
    obtain ⟨q1, q2, q3⟩ := n7 trivial
    exact ⟨by rw [m6 115 _ (by omega) (by omega) (by omega)]; exact q1, by rw [m6 116 _ (by omega) (by omega) (by omega)]; exact q2, by rw [m6 117 _ (by omega) (by omega) (by omega)]; exact q3⟩
  -- both variables have one type
  have tyA : rf_vb (u.1 66 58) u ka.2 C := by
    rcases kA.1.2.1 with ⟨_, C', D', q, h2, _⟩ | ⟨q, _⟩
    · cases q
      exact rf_Hn_02 h2 (Or.inl ha0)
    · exact absurd ha0 q
  have klA := rf_CL_lam (t := t3) (z := z2) (v := v) hM.ub kA ha0 hE (by omega) (by omega) v3 r58.1 (by rw [t106]; exact v7) (by omega) nm2
  have klB : rf_CL t3 g NB fb (rf_one kb.2 v yB) D WB (pb - 1) (u.2.1 102 jb) z3 := by
    have kc := kB
    obtain ⟨⟨b1, b2, b3, b4⟩, ⟨d1, d2⟩, d3, d4⟩ := kB
    have hft := rf_fo_typed hM.ub b1 b2 b4
    obtain ⟨⟨m0, m1⟩, ⟨m2', m3'⟩, m4', m5'⟩ := b1
    rcases b2 with ⟨e, C', D', q1, q2, q3⟩ | ⟨e, _⟩
    · cases q1
      have q2v := rf_Hn_02 q2 (Or.inl e)
      have vt : rf_vb (t3.1 66 58) t3 kb.2 C := rf_vb_le (by omega) ((hE.vb (Int.le_refl _) _ _).mpr q2v)
      have vv : rf_vb (t3.1 66 58) t3 v C := by
        refine ⟨⟨by omega, by omega⟩, ?_⟩
        rw [t106, v7]
        exact (hE.is _ _).mpr tyA.2
      have hwh := rf_wh_0 (j := jb) (u := ub) (f := fb) (x := nb) hb0
      have hbn := (rf_bn_gn m4').1 _ q3
      have hU : ∀ r q, 0 ≤ r → r < u.1 66 61 → g.2.2 r q → g.2.2 r q ∧ (q : Int) < rf_aa u r := fun r q r0 r1 hq => ⟨hq, hM.ub r q r0 r1 hq⟩
      have hN0 : ∀ v T, ¬ NB v T := b3.2.elim (fun z => by have : kb.1 = 3 := z; omega) id
      refine ⟨⟨hE.no m4', (rf_gn_up hE (by omega) (fun _ _ z => z) m4').1 _ q3, ⟨b3.1, Or.inr hN0⟩, rf_NM_one b3.1 (by omega) m7 vt vv (rf_NM_up hE (by omega) (by omega) b4)⟩, ⟨(rf_di_up hE hU).1 hbn (d1.2.1 hb0), ?_⟩, by omega, rf_wy_le (fun z hz => Or.inr (Or.inl ⟨hb0, hz⟩)) (by omega) (rf_wy_up hE (rf_EG_refl u g) d4)⟩
      refine rf_ij_one (F := (rf_fo (rf_Wd u g.2.2) (.inner jb kb ub fb nb)).1) (fun w hw hne => Or.inr (Or.inl ⟨hb0, hne, (rf_Wd_up hE hU).1 hbn w hw⟩)) (fun w hw e => ?_) d2
      obtain ⟨T, hT⟩ := hft w hw
      have := hT.1.2
      omega
    · exact absurd hb0 e
  have hqu := rf_NC_qu hE hN
  have e50 := v5 50 rfl
  have e56 := v5 56 rfl
  have e64 := v5 64 rfl
  have e70 := v5 70 rfl
  have g50 := n5 50 rfl
  have g56 := n5 56 rfl
  have g64 := n5 64 rfl
  have g70 := n5 70 rfl
  have i50 := m5 50 rfl
  have i56 := m5 56 rfl
  have i64 := m5 64 rfl
  have i70 := m5 70 rfl
  refine ih NA NB fa fb _ _ D WA WB (pa - 1) (pb - 1) _ _ _ _ t3 g K a1 (rf_NC_MI hE hN (by omega) (by omega) hM) (by rw [rf_NC_ph hE hN]; exact hph) (rf_RM_same hR (by omega) (by omega) hN.1 (by omega) (by omega) hqu) klA klB (by omega) (by omega) (by rw [hqu]; exact rf_bud h71 (by omega) (by omega)) (by rw [hqu]; exact rf_bud h58 (by omega) (by omega)) (fun z t ht => hK z t (rf_PU_pre hE hN hF (by omega) ⟨by omega, by omega⟩ ⟨by omega, by omega⟩ ht))
