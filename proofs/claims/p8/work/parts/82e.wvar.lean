/-! ===== the reference: write, its contract; writeVar ===== -/
section
variable {Ω : Type}
def we_T (E : we_E Ω) (sL : Nat) (sx : Nat → Int32) (aM : Bool) (H d : Nat) : Prop := ∀ (Z : we_A Ω) (P : Int → Prop) (N : Int → rf_T → Prop) (A : rf_N) (y : rf_Y) (x : rf_T) (W : List Nat) (p q : Nat) (i b dp nb ib : Int) (s : sx_S) (g : rf_Gh) (K : Int → sx_S → Prop), rf_WW aM nb ib s g → rf_CL s g N A y x W p i b → rf_okw aM A p q → q ≤ H → rf_DI s y (rf_fo (rf_Wd s g.2.2) A).1 dp → (0 ≤ dp ∧ dp + (q : Int) ≤ 100000) → s.1 66 71 + (q : Int) ≤ 399900 → s.1 66 58 + (q : Int) ≤ 399900 → we_G E s g → vr_t s (we_AR E) A → we_J E Z P s (we_V E s A y dp) (vr_1 A) ((we_W E (we_V E s A y dp)).1 dp) → (∀ z t, cx_I t → rf_WF s t → rf_OD t → t.1 66 71 ≤ s.1 66 71 + (q : Int) → t.1 66 58 ≤ s.1 66 58 + (q : Int) → we_Z E Z P t → K z t) → sx_C sL sx d 209 [.inr (.inl 66), .inl i, .inl b, .inl dp] s K
/-- trees without unknowns -/
theorem we_g_no {s : sx_S} {n : Int} {p : Nat → Int → Prop} {H : Nat → Int → Int → rf_T → Prop} {Q : Nat → rf_T → Prop} (hn : s.1 66 50 ≤ n) (hH : ∀ j k r u, H j k r u → k = 0 ∨ k = 1 ∨ k = 2 ∨ k = 3) : ∀ {N : rf_N} {z : Int}, rf_no s N z → ((∀ m, ¬ (rf_oc N).1 m) → ∀ t, (rf_gt H Q N).1 t → (vr_g n p N).1) ∧ ((∀ m, ¬ (rf_oc N).2 m) → ∀ w t, (rf_gt H Q N).2 w t → (vr_g n p N).2)
  | .leaf, _, _ => ⟨fun _ _ h => h.elim, fun _ _ _ _ => trivial⟩
  | .inner j k u f x, z, h => by
    obtain ⟨⟨_, a2⟩, _, a5, a6⟩ := h
    have hf := we_g_no (p := p) (Q := Q) hn hH (N := f) a5
    have hx := we_g_no (p := p) (Q := Q) hn hH (N := x) a6
    have h1 : (∀ m, ¬ (rf_oc (.inner j k u f x)).1 m) → ∀ t, (rf_gt H Q (.inner j k u f x)).1 t → (vr_g n p (.inner j k u f x)).1 := by
      rintro hm t (⟨e, A, B, _, _, q3⟩ | ⟨e, w, q1, q2, _⟩)
      · exact ⟨by omega, Or.inl ⟨e, hf.1 (fun z hz => hm z (Or.inr (Or.inl ⟨e, hz⟩))) B q3⟩⟩
      · have e3 : k.1 ≠ 3 := fun c => hm k.2 (Or.inl ⟨c, rfl⟩)
        have e4 := hH _ _ _ _ q1
        have e5 : k.1 = 1 ∨ k.1 = 2 := by omega
        exact ⟨by omega, Or.inr (Or.inr ⟨e5, hf.2 (fun z hz => hm z (Or.inr (Or.inr ⟨e5, hz⟩))) w t q2⟩)⟩
    refine ⟨h1, ?_⟩
    rintro hm w t ⟨A, B, _, q2, q3⟩
    exact ⟨h1 (fun z hz => hm z (Or.inl hz)) A q2, hx.2 (fun z hz => hm z (Or.inr hz)) B t q3⟩
theorem c_e_writeVar {E : we_E Ω} (hL : we_L E) {sL : Nat} {sx : Nat → Int32} (hKE : we_K E sL sx) (hsL : sL ≤ 3072) (d : Nat) (hd : 30 ≤ d) (w0 : we_T E sL sx false 9 (d - 1)) : ∀ (Z : we_A Ω) (P : Int → Prop) (v0 T0 : rf_N) (kc : we_A Ω → we_A Ω) (v dp nb ib : Int) (T : rf_T) (s : sx_S) (g : rf_Gh) (K : Int → sx_S → Prop), rf_WW true nb ib s g → rf_vb (s.1 66 58) s v T → rf_at T ≤ 5 → (0 ≤ s.2.1 107 v.toNat ∧ s.2.1 107 v.toNat < dp) → (0 ≤ dp ∧ dp ≤ 99900) → s.1 66 71 ≤ 399850 → s.1 66 58 ≤ 399850 → we_G E s g → we_J E Z P s v0 T0 (fun w => kc (we_gv E.1.1 (vq_cv T (s.2.1 107 v.toNat) dp) (we_W0 E (vq_cv T (s.2.1 107 v.toNat) dp)).1 dp w)) → (∀ z t, cx_I t → rf_WF s t → rf_OD t → t.1 66 71 ≤ s.1 66 71 + 9 → t.1 66 58 = s.1 66 58 → we_J E Z P t v0 T0 kc → K z t) → sx_C sL sx d 212 [.inr (.inl 66), .inl v, .inl dp] s K := by
  intro Z P v0 T0 kc v dp nb ib T s g K hW hv hT hdv hdp h71 h58 hG hJ hK
  obtain ⟨kP, kN, kM, kA⟩ := hKE trivial
  have h1s := (hG trivial).2.2.2.2.2.1
  obtain ⟨d, rfl⟩ : ∃ e, d = e + 2 := ⟨d - 2, by omega⟩
  have hI := hW.1.1
  have hv0 := hv.1
  have hO := hW.2.2.2.2.2
  have r107 := hI.arr 107 (by decide) rfl v.toNat
  refine sx_methL (wr := true) (n := 400) (n' := 400) (stop := [(25, [0, 1, 2]), (31, [0, 1, 2]), (66, [0])]) (fun ms pc ls u => (pc = 25 ∧ ls = [(0, .inr (.inl 66)), (1, .inl v), (2, .inl dp)] ∧ s = u ∧ 2 ≤ s.2.1 106 v.toNat ∧ ms = 2) ∨ (pc = 31 ∧ ls = [(0, .inr (.inl 66)), (1, .inl v), (2, .inl dp)] ∧ (cx_I u ∧ rf_WF s u ∧ rf_OD u ∧ u.1 66 71 = s.1 66 71 ∧ u.1 66 58 = s.1 66 58 ∧ u.2.1 107 = s.2.1 107) ∧ we_J E Z P u v0 T0 (fun w => kc (we_b E [41] ((we_W0 E (vq_cv T (s.2.1 107 v.toNat) dp)).1 dp w))) ∧ ms = 1) ∨ (pc = 66 ∧ ls = [(0, .inr (.inl 66))] ∧ (cx_I u ∧ rf_WF s u ∧ rf_OD u ∧ u.1 66 71 ≤ s.1 66 71 + 9 ∧ u.1 66 58 = s.1 66 58) ∧ we_J E Z P u v0 T0 (fun w => kc (we_b E [41] w)) ∧ ms = 0)) hsL (e := eX12_writeVar) rfl ?_ ?_
  · refine w_e_wvar (PW := fun t => we_PT E s t (120 :: E.1.2.1 (s.2.1 107 v.toNat))) hI (by omega) (fun q u hu K' hK' => by rw [hu]; exact kN (d + 1) (by omega) 120 _ s K' hI (by omega) (by omega) hK') ?_ (fun q => ⟨_, Or.inl ⟨rfl, rfl, rfl, q, rfl⟩⟩)
    intro q t hpt
    obtain ⟨c1, c2, c3, _⟩ := id hpt
    obtain ⟨e1, e2, e3, e4, e5⟩ := rf_WF_put c2 c3
    refine hK 0 t c1 e1 (e2 hO) (by omega) e4 (we_J_put hL hpt (fun w => ?_) hJ)
    have eT : T = .leaf := by
      have h2 := hv.2
      cases T with
      | leaf => rfl
      | inner n1 u1 v1 A1 B1 =>
        have := h2.1
        omega
    subst eT
    show kc (we_gv E.1.1 (rf_n 0 2 (s.2.1 107 v.toNat) .leaf .leaf) _ dp w) = _
    unfold we_gv we_g
    rw [if_neg (by
      rintro (c | c)
      · exact absurd c wz_n20
      · exact c rfl)]
    exact congrArg kc (we_var 0 (s.2.1 107 v.toNat) .leaf .leaf dp w)
  · rintro ms pc ls u (⟨rfl, rfl, rfl, q, rfl⟩ | ⟨rfl, rfl, ⟨u1, u2, u3, u4, u5, u6⟩, hJu, rfl⟩ | ⟨rfl, rfl, ⟨u1, u2, u3, u4, u5⟩, hJu, rfl⟩)
    · refine w_wvar_25 (PW := fun t => we_PT E s t [40]) (fun K' hK' => kP (d + 1) (by omega) 40 s K' hI (by omega) hK') ?_
      intro t hpt
      obtain ⟨c1, c2, c3, _⟩ := id hpt
      obtain ⟨e1, e2, e3, e4, e5⟩ := rf_WF_put c2 c3
      refine ⟨_, by omega, Or.inr (Or.inl ⟨rfl, rfl, ⟨c1, e1, e2 hO, e3, e4, e5⟩, we_J_put hL hpt (fun w => ?_) hJ, rfl⟩)⟩
      have eT : ∃ A1 B1, T = rf_a A1 B1 := by
        have h2 := hv.2
        cases T with
        | leaf =>
          have h2' : 0 ≤ s.2.1 106 v.toNat ∧ s.2.1 106 v.toNat < 2 := h2
          omega
        | inner n1 u1 v1 A1 B1 =>
          have hn := h2.1.1
          subst hn
          exact ⟨A1, B1, rfl⟩
      obtain ⟨A1, B1, eT⟩ := eT
      subst eT
      show kc (we_gv E.1.1 (rf_n 0 0 0 _ .leaf) _ dp w) = _
      unfold we_gv we_g
      split
      · rfl
      · rename_i hno
        exact absurd (Or.inl rfl) hno
    · have hWu := rf_WW_up hW u1 u2 u3
      obtain ⟨⟨_, hMu, hnb, hib, hph⟩, h70, h61, h9, ⟨h50, h56⟩, _⟩ := hWu
      have h50' : u.1 66 50 ≤ 59950 := h50
      obtain ⟨hEu, hNu⟩ := rf_WF_EX u2
      have hvu : rf_vt u v T := by
        have := (hEu.vb (Int.le_refl _) v T).mpr hv
        rw [← u5] at this
        exact this
      refine w_wvar_31 (PL := fun z t => cx_I t ∧ cx_F [(66, 66), (100, 103), (105, 106)] u t ∧ rf_f [50, 56, 58] u t ∧ rf_xu u t ∧ rf_ag 100 103 (u.1 66 50) u t ∧ (t.1 66 50 + 1 ≤ u.1 66 50 + 2 * (rf_at T : Int) ∧ t.1 66 58 + 1 ≤ u.1 66 58 + (rf_at T : Int) ∧ t.1 66 56 = u.1 66 56) ∧ rf_made (u.1 66 50) T t z (fun n => (rf_wh n).1 + 1 ≤ 2 * rf_at T ∧ (∀ m, ¬ (rf_oc n).1 m) ∧ rf_lf n v ∧ (rf_sc rf_G0 n).1 [v] ∧ vq_n T v n)) (PW := fun t2 => ∃ t Z1 P1, (we_Z E Z1 P1 t2 ∧ (t.1 66 89 = u.1 66 89 ∧ t.1 66 61 = u.1 66 61) ∧ ∀ w : we_A Ω, w = Z1 → we_N t2 w.1 → we_Sp E t2 w.2 → kc (we_b E [41] w) = Z ∧ we_M E t2 w Z v0 T0 P P1) ∧ (cx_F [(66, 66), (100, 103), (105, 106)] u t ∧ rf_f [50, 56, 58] u t ∧ rf_xu u t ∧ rf_ag 100 103 (u.1 66 50) u t ∧ t.1 66 56 = u.1 66 56) ∧ cx_I t2 ∧ rf_WF t t2 ∧ rf_OD t2 ∧ t2.1 66 71 ≤ t.1 66 71 + 9) u1 ?_ ?_ ?_
      · intro K' hK'
        exact (c_v_clv hsL 5 d (by omega)).2 T v u K' hT u1 hvu hT h9 (by omega) (by omega) (by omega) (fun z t c1 c2 c3 c4 c5 c6 c7 => hK' z t ⟨c1, c2, c3, c4, c5, c6, c7⟩)
      · rintro z t ⟨c1, c2, c3, c4, c5, ⟨c6, c7, c8⟩, n, n1, n2, n3, n4, n5, n6, n7, n8, n9, n10⟩ K' hK'
        obtain ⟨hE, hN⟩ := rf_lv_EX c2 c3 c4 c5
        have e61 := c3 61 rfl
        have e70 := c3 70 rfl
        have e71 := c3 71 rfl
        have x3 := (c4.2 0).1
        obtain ⟨kC, kD⟩ := rf_lv_CL (v := v) (dp := dp) hMu h70.1 c2 c3 hE n1 n5 (by omega) n7 n9 (by rw [u6]; exact hdv)
        have hOt : rf_OD t := rf_OD_same u3 e61 (c3 83 rfl) (c3 79 rfl) (fun p hp => by
          rcases hp with rfl | rfl | rfl | rfl <;> exact (c2.same _ rfl).2)
        have hWt : rf_WW false nb ib t g := ⟨⟨c1, rf_NC_MI (rf_EX_le hE hnb hib) hN (Int.le_refl _) (Int.le_refl _) hMu, by omega, by omega, by rw [rf_NC_ph hE hN]; exact hph⟩, by omega, by omega, by rw [c3 9 rfl]; exact h9, ⟨by show t.1 66 50 ≤ 59990; omega, by omega⟩, hOt⟩
        have hGu := we_G_WF hL hW u2 hG
        have hGt : we_G E t g := we_G_up hL u1 hMu (rf_EX_le hE hnb hib) hN (by omega) (fun p h1 h2 => ((c2 p).1 (fun q hq => by
          simp only [List.mem_cons, List.not_mem_nil, or_false] at hq
          rcases hq with rfl | rfl | rfl <;> (dsimp only; omega))).2) (c3 3 rfl) hGu
        have tn : vr_t t (we_AR E) n := (we_g_no (Int.le_refl _) (fun j k r u h => by
          rcases h with ⟨h, _⟩ | ⟨h, _⟩ | ⟨h, _⟩ | ⟨h, _⟩ <;> omega) n1).1 n7 T n5
        have hgt := (hGt trivial).1.2.1
        have hon : ∀ m, vx_on (we_th E m) := fun m => (hgt m).1
        have eD : we_D t dp v = s.2.1 107 v.toNat := by
          unfold we_D
          rw [if_pos (by omega), (c2.same 107 rfl).2, u6]
        have eV : we_V E t n .leaf dp = vq_cv T (s.2.1 107 v.toNat) dp := by
          unfold we_V vr_V
          rw [n10.1, vx_val_re hgt (fun i hi => (by unfold we_D; rw [if_neg (by omega)]; omega : we_D t dp (t.1 66 58 + i) = dp + i)), n10.2 _ _ _ _ hon]
          show vq_cv T (we_D t dp v) dp = _
          rw [eD]
        obtain ⟨w, P1, ⟨j1, j2⟩, j3, j4⟩ := we_J_F c2 c3 rfl rfl hJu
        obtain ⟨j5, j6⟩ := j4 trivial
        have eW : (we_W E (vq_cv T (s.2.1 107 v.toNat) dp)).1 dp w = (we_W0 E (vq_cv T (s.2.1 107 v.toNat) dp)).1 dp w := by
          unfold we_W we_W0
          rw [we_noh (hf' := fun _ _ _ w => w) (fun x => wz_cv_oc T _ _)]
        have eA : ((we_W0 E (vq_cv T (s.2.1 107 v.toNat) dp)).1 dp w).1 = w.1 := (we_fst0 _ _).1
        refine w0 ((we_W0 E (vq_cv T (s.2.1 107 v.toNat) dp)).1 dp w) P1 _ n .leaf T [] _ 9 z (-1) dp nb ib t g K' hWt kC (Or.inl ⟨n7, by omega⟩) (Nat.le_refl _) kD (by omega) (by omega) (by omega) hGt tn ?_ (fun zz t2 f1 f2 f3 f4 f5 f6 => hK' zz t2 ⟨t, _, P1, ⟨f6, ⟨c3 89 rfl, c3 61 rfl⟩, fun w' hw' _ _ => ?_⟩, ⟨c2, c3, c4, c5, c8⟩, f1, f2, f3, f4⟩)
        · rw [eV]
          refine ⟨w, P1, ⟨j1, j2⟩, eW, fun _ => ⟨fun _ x hx => absurd hx (wz_cv_oc T _ _), fun c => ⟨(j6 c).1, fun m hm => ⟨fun x hx => absurd (vr_mt.1 tn hx) (n7 x), Or.inl hm⟩, (j6 c).2.2⟩⟩⟩
        · have g89 := f2.1.2.1 89 rfl
          obtain ⟨_, z2⟩ := f6 trivial
          rw [hw']
          refine ⟨j3, fun _ => ⟨fun c x hx => ?_, fun c => ⟨(z2 c).1, (j6 (by rw [← g89]; exact c)).2.1, (z2 c).2⟩⟩⟩
          rw [eA]
          exact j5 (by rw [← g89]; exact c) x hx
      · rintro t2 ⟨t, Z1, P1, ⟨hZ1, ⟨t89, t61⟩, hZ2⟩, ⟨c2, c3, c4, c5, c8⟩, f1, f2, f3, f4⟩ a b ha hb
        have e71 := c3 71 rfl
        have hwf := rf_lv_WF c2 c3 c4 c5 c8 f2 ha hb
        have r50 := u1.fld 66 50 (by decide) rfl
        have r58 := u1.fld 66 58 (by decide) rfl
        have o : ∀ k, k ≠ 50 → k ≠ 58 → sx_uf (sx_uf t2.1 66 50 a) 66 58 b 66 k = t2.1 66 k := fun k h1 h2 => by
          rw [sx_uf_if, if_neg (fun c => h2 c.2), sx_uf_if, if_neg (fun c => h1 c.2)]
        refine ⟨_, by omega, Or.inr (Or.inr ⟨rfl, rfl, ⟨cx_I_uf rfl rfl (cx_I_uf rfl rfl f1 (by omega) (by omega)) (by omega) (by omega), rf_WF_trans hwf u2, rf_OD_same f3 (o 61 (by decide) (by decide)) (o 83 (by decide) (by decide)) (o 79 (by decide) (by decide)) (fun _ _ => rfl), ?_, ?_⟩, ?_, rfl⟩)⟩
        · show sx_uf (sx_uf t2.1 66 50 a) 66 58 b 66 71 ≤ _
          rw [o 71 (by decide) (by decide)]
          omega
        · show sx_uf (sx_uf t2.1 66 50 a) 66 58 b 66 58 = _
          rw [sx_uf_if, if_pos ⟨rfl, rfl⟩]
          omega
        · obtain ⟨⟨y1, y2⟩, _⟩ := hZ1 trivial
          obtain ⟨y3, y4⟩ := hZ2 Z1 rfl y1 y2
          exact we_J_same (u := t2) (fun k hk => o k (by omega) (by omega)) (fun _ _ => rfl) ⟨Z1, P1, ⟨y1, y2⟩, y3, y4⟩
    · refine w_wvar_66 (PW := fun t => we_PT E u t [41]) (fun K' hK' => kP (d + 1) (by omega) 41 u K' u1 (by omega) hK') ?_
      intro t hpt
      obtain ⟨c1, c2, c3, _⟩ := id hpt
      obtain ⟨e1, e2, e3, e4, e5⟩ := rf_WF_put c2 c3
      exact hK 0 t c1 (rf_WF_trans e1 u2) (e2 u3) (by omega) (by omega) (we_J_put hL hpt (fun _ => rfl) hJu)
end
