section
/-! ===== the reference: equation, with values ===== -/
theorem c_v_equation {sL : Nat} {sx : Nat → Int32} (hsL : sL ≤ 3072) (bb : Nat → Int) (nb mt : Int) (C M : List (Int × qx_T)) (hmt : mt ≤ 242) (d : Nat) (hd : 320 ≤ d) : ∀ (tl tr : px_N) (r lo mid hi : Int) (s : sx_S) (K : Int → sx_S → Prop), cx_I s → (0 ≤ r ∧ r ≤ 59) → px_tr lo mid s (s.2.1 90 r.toNat) tl → px_tr mid hi s (s.2.1 91 r.toNat) tr → ((px_sh tl).1 ∧ (px_hh tl).1 ≤ 22 ∧ px_tb mt tl) → ((px_sh tr).1 ∧ (px_hh tr).1 ≤ 22 ∧ px_tb mt tr) → px_E bb nb mt C M s → (0 ≤ s.2.1 90 r.toNat ∧ 0 ≤ s.2.1 91 r.toNat) → (0 ≤ lo ∧ lo ≤ mid ∧ mid ≤ hi) → s.1 66 8 = 0 → rf_CK s → rf_ES s → s.1 66 40 = 0 → s.1 66 34 = 0 → (2 ≤ s.1 66 9 ∧ s.1 66 9 + (hi - lo) ≤ 5990) → rf_RB s (9 * (hi - lo).toNat) → (∀ (z : Int) (t : sx_S), cx_I t → rf_FQ s t → (s.1 66 9 ≤ t.1 66 9 ∧ t.1 66 9 ≤ s.1 66 9 + (hi - lo)) → rf_CB s t (9 * (hi - lo).toNat) → (t.1 66 40 = 0 ∨ (0 ≤ t.1 66 41 ∧ t.1 66 41 ≤ 241)) → (t.1 66 40 = 0 → rf_ES t) → ((t.1 66 40 = 0 → t.1 66 47 = s.1 66 47 + 1 ∧ s.1 66 47 ≤ 3 ∧ (∃ x, (px_wt (px_SN bb nb) C M tl).1 [] x ∧ (px_wt (px_SN bb nb) C M tr).1 [] x)) ∧ (t.1 66 40 ≠ 0 → ¬ (s.1 66 47 ≤ 3 ∧ (∃ x, (px_wt (px_SN bb nb) C M tl).1 [] x ∧ (px_wt (px_SN bb nb) C M tr).1 [] x)))) → (t.1 66 40 = 0 → (vk_sd (px_SN bb nb) C M tl t (t.2.1 98 (s.1 66 47).toNat) ∧ vk_sd (px_SN bb nb) C M tr t (t.2.1 99 (s.1 66 47).toNat)) ∧ ∀ i : Nat, (i : Int) < s.1 66 47 → t.2.1 98 i = s.2.1 98 i ∧ t.2.1 99 i = s.2.1 99 i) → K z t) → sx_C sL sx d 174 [.inr (.inl 66), .inl r] s K := by
  intro tl tr r lo mid hi s K hI hr hL hR hwl hwr hE hz hlo h8 hCK hES h40 h34 h9 hRB hK
  obtain ⟨d, rfl⟩ : ∃ e, d = e + 2 := ⟨d - 2, by omega⟩
  obtain ⟨nl, l1, l2, l3, l4, l5⟩ := hL
  obtain ⟨nr, m1, m2, m3, m4, m5⟩ := hR
  have lp := l5 h8
  have mp := m5 h8
  have l5 := (px_rw_is h9.1 lp).1 hwl.1
  have m5 := (px_rw_is h9.1 mp).1 hwr.1
  have l6 : ((rf_ht nl).1 : Int) ≤ 22 := by
    rw [px_ht_is lp]
    have := hwl.2.1
    omega
  have m6 : ((rf_ht nr).1 : Int) ≤ 22 := by
    rw [px_ht_is mp]
    have := hwr.2.1
    omega
  have r47 := hI.fld 66 47 (by decide) rfl
  have r58 := hI.fld 66 58 (by decide) rfl
  have sl0 : (rf_s1 nl : Int) ≤ mid - lo := by
    rcases rf_tr_len hlo.1 l2 l3 with q | q
    · exact q
    · omega
  have sr0 : (rf_s1 nr : Int) ≤ hi - mid := by
    rcases rf_tr_len (by omega) m2 m3 with q | q
    · exact q
    · omega
  have hdis : ∀ i ∈ rf_idx nl, i ∉ rf_idx nr := fun i q1 q2 => by
    have := (l3 i q1).2
    have := (m3 i q2).1
    omega
  have al : ∀ n : rf_N, ∀ i ∈ rf_al1 n, i ∈ rf_idx n := fun n i hi => by
    cases n with
    | leaf => exact hi
    | inner nj nk nu nf nx =>
      rcases List.mem_cons.mp hi with rfl | hi
      · exact List.mem_cons_self
      · exact List.mem_cons_of_mem _ (List.mem_append_left _ hi)
  have hga0 : ∀ u : sx_S, u.1 66 34 = 0 → rf_ga u (u.1 66 34).toNat = [] := fun u q => by
    rw [q]
    rfl
  -- after the first check; after the second
  refine sx_methL (wr := true) (n := 400) (n' := 400) (stop := [(32, [0, 1, 2]), (54, [0, 1, 2, 3]), (81, [0, 1])]) (fun n pc ls u => (pc = 32 ∧ ∃ x2 : Int, ls = [(0, .inr (.inl 66)), (1, .inl r), (2, .inl x2)] ∧ (cx_I u ∧ rf_FC s u (rf_al1 nl)) ∧ (s.1 66 9 ≤ u.1 66 9 ∧ u.1 66 9 ≤ s.1 66 9 + (mid - lo)) ∧ rf_CB s u (9 * rf_s1 nl) ∧ (u.1 66 40 = 0 ∨ (0 ≤ u.1 66 41 ∧ u.1 66 41 ≤ 241)) ∧ (0 ≤ x2 ∧ x2 ≤ 5999) ∧ s.1 66 47 ≤ 3 ∧ (u.1 66 40 = 0 → ∃ x, rf_is u x x2 ∧ rf_Rd u nl x [] ∧ rf_CB s u (5 * rf_s1 nl)) ∧ vk_C1 bb nb C M [] [] tl u (rf_mm u nl) x2 ∧ n = 3) ∨ (pc = 54 ∧ ∃ x2 x3 : Int, ls = [(0, .inr (.inl 66)), (1, .inl r), (2, .inl x2), (3, .inl x3)] ∧ (cx_I u ∧ rf_FC s u (rf_idx nl ++ rf_idx nr)) ∧ (s.1 66 9 ≤ u.1 66 9 ∧ u.1 66 9 ≤ s.1 66 9 + (hi - lo)) ∧ rf_CB s u (9 * (hi - lo).toNat) ∧ (u.1 66 40 = 0 ∨ (0 ≤ u.1 66 41 ∧ u.1 66 41 ≤ 241)) ∧ s.1 66 47 ≤ 3 ∧ (u.1 66 40 = 0 → ∃ x y, rf_is u x x2 ∧ rf_is u y x3 ∧ rf_Rd u nl x [] ∧ rf_Rd u nr y [] ∧ rf_CB s u (5 * rf_s1 nl + 5 * rf_s1 nr)) ∧ ((u.1 66 40 = 0 → ∃ y1 y2, (px_wt (px_SN bb nb) C M tl).1 [] y1 ∧ (px_wt (px_SN bb nb) C M tr).1 [] y2 ∧ qx_is u y1 x2 ∧ qx_is u y2 x3 ∧ (vk_lk (px_SN bb nb) C M (rf_mm u nl) tl).1 [] [] ∧ (vk_lk (px_SN bb nb) C M (rf_mm u nr) tr).1 [] []) ∧ (u.1 66 40 ≠ 0 → ¬ (∃ x, (px_wt (px_SN bb nb) C M tl).1 [] x ∧ (px_wt (px_SN bb nb) C M tr).1 [] x))) ∧ n = 2) ∨ (pc = 81 ∧ ls = [(0, .inr (.inl 66)), (1, .inl r)] ∧ (cx_I u ∧ rf_FC s u (rf_idx nl ++ rf_idx nr)) ∧ (s.1 66 9 ≤ u.1 66 9 ∧ u.1 66 9 ≤ s.1 66 9 + (hi - lo)) ∧ rf_CB s u (9 * (hi - lo).toNat) ∧ (u.1 66 40 = 0 ∨ (0 ≤ u.1 66 41 ∧ u.1 66 41 ≤ 241)) ∧ s.1 66 47 ≤ 3 ∧ (u.1 66 40 = 0 → ∃ x y, (x = qx_sh y ∧ (px_wt (px_SN bb nb) C M tl).1 [] y ∧ (px_wt (px_SN bb nb) C M tr).1 [] y ∧ (vk_lk (px_SN bb nb) C M (rf_mm u nl) tl).1 [] [] ∧ (vk_lk (px_SN bb nb) C M (rf_mm u nr) tr).1 [] []) ∧ rf_Rd u nl x [] ∧ rf_Rd u nr x [] ∧ rf_CB s u (5 * rf_s1 nl + 5 * rf_s1 nr)) ∧ ((u.1 66 40 = 0 → (∃ x, (px_wt (px_SN bb nb) C M tl).1 [] x ∧ (px_wt (px_SN bb nb) C M tr).1 [] x)) ∧ (u.1 66 40 ≠ 0 → ¬ (∃ x, (px_wt (px_SN bb nb) C M tl).1 [] x ∧ (px_wt (px_SN bb nb) C M tr).1 [] x))) ∧ n = 1)) hsL (e := eX12_equation) rfl ?_ ?_
  · refine w_eq (c_r_wrong hsL (d + 1) (by omega)) (PB := fun z t => s.1 66 47 ≤ 3 ∧ cx_I t ∧ rf_FC s t (rf_al1 nl) ∧ (s.1 66 9 ≤ t.1 66 9 ∧ t.1 66 9 ≤ s.1 66 9 + (rf_s1 nl : Int)) ∧ rf_CB s t (9 * rf_s1 nl) ∧ (t.1 66 40 = 0 ∨ (0 ≤ t.1 66 41 ∧ t.1 66 41 ≤ 241)) ∧ (0 ≤ z ∧ z ≤ 5999) ∧ (t.1 66 40 = 0 → ∃ x, rf_is t x z ∧ rf_Rd t nl x (rf_ga s (s.1 66 34).toNat) ∧ rf_CB s t (rf_cs (rf_mm t nl)).1) ∧ vk_C1 bb nb C M [] (rf_ga s (s.1 66 34).toNat) tl t (rf_mm t nl) z) hI hr ?_ ?_ ?_
    · intro q tok t' htok p1 p2 p3 p4 p5
      have e9 := p3 9 rfl
      refine hK 0 t' p1 (rf_FQ_C (rf_FC_W p2 p3)) (by omega) (rf_CB_same (t := s) ⟨by omega, by omega, by omega, by omega⟩ (p3 50 rfl) (p3 56 rfl) (p3 58 rfl) (p2 0).2) (Or.inr ?_) (fun q => absurd q p4) ⟨fun q2 => absurd q2 p4, fun _ hh => by have := hh.1; omega⟩ (fun q2 => absurd q2 p4)
      rcases p5 with ⟨z1, z2, z3⟩ | ⟨z1, z2, z3⟩
      · omega
      · omega
    · intro q u hu K' hK'
      rw [hu]
      refine c_v_check hsL bb nb mt C M hmt 22 (d + 1) (by omega) (by omega) nl tl [] _ s K' hI l1 l2 l5 (by omega) hCK h40 (by omega) (by omega) ?_ hE (px_EV_nil h34) lp hwl.2.2 (fun z t c1 c2 c3 c4 c5 c6 c7 c8 => hK' z t ⟨by omega, c1, c2, c3, c4, c5, c6, c7, c8⟩)
      obtain ⟨b1, b2, b3, b4⟩ := hRB
      exact ⟨by omega, by omega, by omega, by omega⟩
    · rintro z t ⟨c0, c1, c2, c3, c4, c5, c6, c7, c8⟩
      rw [hga0 s h34] at c8
      refine ⟨_, Or.inl ⟨rfl, z, rfl, ⟨c1, c2⟩, by omega, c4, c5, c6, c0, fun q => ?_, c8, rfl⟩⟩
      obtain ⟨x, x1, x2, x3⟩ := c7 q
      rw [hga0 s h34] at x2
      have hcs := (rf_cs_gd (n := rf_mm t nl)).1 x2.2.1
      have e1 : rf_s1 (rf_mm t nl) = rf_s1 nl := by
        cases nl with
        | leaf => rfl
        | inner nj nk nu nf nx =>
          show 1 + (rf_idx (rf_mm t nf)).length = 1 + (rf_idx nf).length
          rw [rf_mm_idx]
      rw [e1] at hcs
      refine ⟨x, x1, x2, ?_⟩
      obtain ⟨d1, d2, d3, d4⟩ := x3
      exact ⟨by omega, by omega, by omega, by omega⟩
  · rintro n pc ls u (⟨rfl, x2, rfl, ⟨g1, g2⟩, h9u, hcb, h41, hx2, h47, hap, hc1, rfl⟩ | ⟨rfl, x2, x3, rfl, ⟨g1, g2⟩, h9u, hcb, h41, h47, hap, hc2, rfl⟩ | ⟨rfl, rfl, ⟨g1, g2⟩, h9u, hcb, h41, h47, hap, hc3, rfl⟩)
    · refine w_eq_32 (PB := fun z t => u.1 66 40 = 0 ∧ cx_I t ∧ rf_FC u t (rf_al1 nr) ∧ (u.1 66 9 ≤ t.1 66 9 ∧ t.1 66 9 ≤ u.1 66 9 + (rf_s1 nr : Int)) ∧ rf_CB u t (9 * rf_s1 nr) ∧ (t.1 66 40 = 0 ∨ (0 ≤ t.1 66 41 ∧ t.1 66 41 ≤ 241)) ∧ (0 ≤ z ∧ z ≤ 5999) ∧ (t.1 66 40 = 0 → ∃ x, rf_is t x z ∧ rf_Rd t nr x (rf_ga u (u.1 66 34).toNat) ∧ rf_CB u t (rf_cs (rf_mm t nr)).1) ∧ vk_C1 bb nb C M [] (rf_ga u (u.1 66 34).toNat) tr t (rf_mm t nr) z) g1 hr ?_ ?_ ?_
      · intro q
        refine ⟨_, by omega, Or.inr (Or.inl ⟨rfl, x2, 0, rfl, ⟨g1, rf_FC_sub g2 (fun i hi => List.mem_append_left _ (al nl i hi))⟩, by omega, ?_, h41, h47, fun z => absurd z q, ⟨fun z => absurd z q, fun _ ⟨x, h1, _⟩ => (hc1 trivial).2 q x h1⟩, rfl⟩)⟩
        obtain ⟨c1, c2, c3, c4⟩ := hcb
        exact ⟨by omega, by omega, by omega, by omega⟩
      · intro q v hv K' hK'
        rw [hv, (g2.same 91 rfl).2]
        obtain ⟨x, x1, x2', x3⟩ := hap q
        have e34 := g2.2.1 34 rfl
        refine c_v_check hsL bb nb mt C M hmt 22 (d + 1) (by omega) (by omega) nr tr [] _ u K' g1 (rf_rt_F0 (rf_F0_C g2 (Int.le_refl _)) m1) m2 ((rf_rw_F0 (rf_F0_C g2 (Int.le_refl _))).1 m5) (by omega) (rf_CK_F0 (rf_F0_C g2 (Int.le_refl _)) (by omega) (by omega) hCK) q (by omega) (by omega) (rf_RB_CB hRB x3 (by omega)) (px_E_FC hE g2) (px_EV_nil (by omega)) (px_is_F0 (rf_F0_C g2 (Int.le_refl _)) mp) hwr.2.2 (fun z t c1 c2 c3 c4 c5 c6 c7 c8 => hK' z t ⟨q, c1, c2, c3, c4, c5, c6, c7, c8⟩)
      · rintro z t ⟨q, c1, c2, c3, c4, c5, c6, c7, c8⟩
        obtain ⟨x, x1, x2', x3'⟩ := hap q
        have e34 := g2.2.1 34 rfl
        refine ⟨_, by omega, Or.inr (Or.inl ⟨rfl, x2, z, rfl, ⟨c1, rf_FC_trans c2 g2 (fun i hi => List.mem_append_left _ (al nl i hi)) (fun i hi => List.mem_append_right _ (al nr i hi))⟩, by omega, rf_CB_trans c4 x3' (by omega), c5, h47, fun q2 => ?_, by rw [hga0 u (by omega)] at c8; have e9 := vk_Q2 hc1 q c8 c2.2.2.1.1; rw [← rf_mm_C (n := nl) c2 (fun i hi q3 => hdis i hi (al nr i q3))] at e9; exact e9, rfl⟩)⟩
        obtain ⟨y, y1, y2, y3⟩ := c7 q2
        rw [hga0 u (by omega)] at y2
        have hcs := (rf_cs_gd (n := rf_mm t nr)).1 y2.2.1
        have e1 : rf_s1 (rf_mm t nr) = rf_s1 nr := by
          cases nr with
          | leaf => rfl
          | inner nj nk nu nf nx =>
            show 1 + (rf_idx (rf_mm t nf)).length = 1 + (rf_idx nf).length
            rw [rf_mm_idx]
        rw [e1] at hcs
        exact ⟨x, y, rf_is_up x1 c2.2.2.1.1, y1, rf_Rd_C c2 (fun i hi q3 => hdis i hi (al nr i q3)) x2', y2, rf_CB_trans y3 x3' (by omega)⟩
    · refine w_q_eq_54 (c_r_wrong hsL (d + 1) (by omega)) (PS := fun z => (z ≠ 0 → ∃ x y, (x = qx_sh y ∧ (px_wt (px_SN bb nb) C M tl).1 [] y ∧ (px_wt (px_SN bb nb) C M tr).1 [] y ∧ (vk_lk (px_SN bb nb) C M (rf_mm u nl) tl).1 [] [] ∧ (vk_lk (px_SN bb nb) C M (rf_mm u nr) tr).1 [] []) ∧ rf_Rd u nl x [] ∧ rf_Rd u nr x [] ∧ rf_CB s u (5 * rf_s1 nl + 5 * rf_s1 nr)) ∧ (z ≠ 0 → (∃ x, (px_wt (px_SN bb nb) C M tl).1 [] x ∧ (px_wt (px_SN bb nb) C M tr).1 [] x)) ∧ (z = 0 → ¬ (∃ x, (px_wt (px_SN bb nb) C M tl).1 [] x ∧ (px_wt (px_SN bb nb) C M tr).1 [] x))) g1 hr ?_ ?_ ?_ ?_
      · intro q
        exact ⟨_, by omega, Or.inr (Or.inr ⟨rfl, rfl, ⟨g1, g2⟩, h9u, hcb, h41, h47, fun z => absurd z q, ⟨fun z => absurd z q, hc2.2⟩, rfl⟩)⟩
      · intro q K' hK'
        obtain ⟨x, y, x1, y1, x2', y2, c5⟩ := hap q
        have hx := rf_hx_gt x2'.1
        rw [rf_mm_ht (rf_rt_F0 (rf_F0_C g2 (Int.le_refl _)) l1)] at hx
        obtain ⟨y1', y2', t1, t2, s1, s2, lk1, lk2⟩ := hc2.1 q
        have h9u2 : 2 ≤ u.1 66 9 := by omega
        have sA : x = qx_sh y1' := rf_ty_inj x1 (qx_ty_sh h9u2 s1)
        have sX : y = qx_sh y2' := rf_ty_inj y1 (qx_ty_sh h9u2 s2)
        refine c_q_same hsL y1' (d + 1) (by rw [← sA]; omega) y2' x2 x3 u K' g1 (by omega) s1 s2 (fun z3 => hK' 1 (by omega) ⟨fun _ => ?_, fun _ => ⟨y1', t1, by rw [z3]; exact t2⟩, fun q => absurd q (by decide)⟩) (fun z3 => hK' 0 (by omega) ⟨fun q => absurd rfl q, fun q => absurd rfl q, fun _ ⟨w, a, b⟩ => z3 ((px_wt_fun.1 t1 a).trans (px_wt_fun.1 t2 b).symm)⟩)
        have e : x = y := by rw [sA, sX, z3]
        subst e
        exact ⟨x, y1', ⟨sA, t1, by rw [z3]; exact t2, lk1, lk2⟩, x2', y2, c5⟩
      · intro q z q1 q2
        exact ⟨_, by omega, Or.inr (Or.inr ⟨rfl, rfl, ⟨g1, g2⟩, h9u, hcb, h41, h47, fun _ => q2.1 q1, ⟨fun _ => q2.2.1 q1, fun z => absurd q z⟩, rfl⟩)⟩
      · intro p7 t' p1 p2 p3 p4 p5 p6
        have e9 := p3 9 rfl
        exact ⟨_, by omega, Or.inr (Or.inr ⟨rfl, rfl, ⟨p1, rf_FC_trans (rf_FC_W p2 p3) g2 (fun _ q => q) (fun _ q => absurd q List.not_mem_nil)⟩, by omega, rf_CB_same hcb (p3 50 rfl) (p3 56 rfl) (p3 58 rfl) (p2 0).2, Or.inr p6, h47, fun q => absurd q p4, ⟨fun q => absurd q p4, fun _ => by obtain ⟨z, z0, z1⟩ := p7; exact z1.2.2 z0⟩, rfl⟩)⟩
    · have e47 := g2.2.1 47 rfl
      have hn0 : ∀ {t : sx_S} {n : rf_N} {x : rf_T} {z : Int} {P : rf_N → Prop} {lo : Int}, cx_I t → rf_made lo x t z P → 0 ≤ z ∧ z ≤ 59999 := fun {t} {n} {x} {z} {P} {lo} hi hm => by
        obtain ⟨N, n1, _, _, _, n5, _⟩ := hm
        have h1 := rf_nd_rng n1
        have h2 := hi.fld 66 50 (by decide) rfl
        have h3 : z ≠ -1 := fun e => by
          have := rf_nd_nil n1 e
          subst this
          exact n5.elim
        omega
      by_cases q40 : u.1 66 40 = 0
      · obtain ⟨x, y, ⟨hxy, wl, wr, kl, kr⟩, xl, xr, xc⟩ := hap q40
        have hrtl := rf_rt_F0 (rf_F0_C g2 (Int.le_refl _)) l1
        have hrtr := rf_rt_F0 (rf_F0_C g2 (Int.le_refl _)) m1
        have es1 : ∀ n : rf_N, rf_s1 (rf_mm u n) = rf_s1 n := fun n => by
          cases n with
          | leaf => rfl
          | inner nj nk nu nf nx =>
            show 1 + (rf_idx (rf_mm u nf)).length = 1 + (rf_idx nf).length
            rw [rf_mm_idx]
        refine w_eq_81 (PB := fun z t => cx_I t ∧ rf_FB u t ∧ rf_CB u t (rf_s1 nl) ∧ rf_made (u.1 66 50) x t z (vq_PB (rf_mm u nl) [] (u.1 66 58) t)) (PC := fun z e1 t t1 z2 t2 => (cx_I t ∧ rf_FB u t ∧ rf_CB u t (rf_s1 nl) ∧ rf_EQ t z x ∧ vk_sd (px_SN bb nb) C M tl t z) ∧ e1 = u.1 66 47 ∧ t1 = (t.1, sx_ua t.2.1 98 e1.toNat z, t.2.2) ∧ cx_I t2 ∧ rf_FB t1 t2 ∧ rf_CB t1 t2 (rf_s1 nr) ∧ rf_made (t1.1 66 50) x t2 z2 (vq_PB (rf_mm u nr) [] (t1.1 66 58) t2)) g1 hr (fun q => absurd q40 q) ?_ ?_ ?_ ?_ ?_
        · intro _ v hv K' hK'
          rw [hv, (g2.same 90 rfl).2]
          refine c_v_build hsL 22 (d + 1) (by omega) (by omega) (rf_mm u nl) x [] _ u K' g1 (rf_mm_ym hrtl) (by rw [rf_mm_ht hrtl]; omega) xl.1 xl.2.1 xl.2.2 (by omega) (by rw [es1]; exact rf_RB_CB hRB xc (by omega)) (fun z t c1 c2 c3 c4 => hK' z t ⟨c1, c2, by rw [es1] at c3; exact c3, c4⟩)
        · rintro z t ⟨c1, c2, c3, c4⟩
          exact ⟨c1, hn0 (n := .leaf) c1 c4, c2.2.1 47 rfl, by omega⟩
        · rintro z t ⟨c1, c2, c3, c4⟩ e1 v he1 hv K' hK'
          have hz0 := hn0 (n := .leaf) c1 c4
          have hEQ : rf_EQ t z x := by
            obtain ⟨N, n1, n2, n3, n4, n5, ⟨⟨n6, n7⟩, n8⟩, n9⟩ := c4
            rw [rf_mm_ht hrtl] at n8
            exact ⟨N, n1, n5, n7, by omega⟩
          have hSD : vk_sd (px_SN bb nb) C M tl t z := by
            obtain ⟨N, n1, n2, n3, n4, n5, _, n9⟩ := c4
            exact vk_sd_mk hE g2.2.2.1 (by omega) c2.2.2.1 (c2.same 84 rfl).2 wl (by rw [← hxy]; exact xl.1) kl n1 n9
          have a98 : ∀ q, q ≠ 98 → sx_ua t.2.1 98 e1.toNat z q = t.2.1 q := fun q hq => sx_ua_ne hq
          rw [hv, (c2.same 91 rfl).2, (g2.same 91 rfl).2]
          have e9 := c2.2.1 9 rfl
          have hxu : rf_xu t (t.1, sx_ua t.2.1 98 e1.toNat z, t.2.2) := (rf_FQ_98 (Or.inl rfl)).2.2.1
          refine c_v_build hsL 22 (d + 1) (by omega) (by omega) (rf_mm u nr) x [] _ (t.1, sx_ua t.2.1 98 e1.toNat z, t.2.2) K' (cx_I_ua rfl rfl (F := t.1) (A := t.2.1) (B := t.2.2) c1 (by omega) (by omega)) (rf_ym_arr (s := t) rfl (fun p hp => a98 p (by omega)) (rf_ym_up c2 (rf_mm_ym hrtr))) (by rw [rf_mm_ht hrtr]; omega) ((rf_Rt_up (rf_xu_trans hxu c2.2.2.1) (fun i _ => by dsimp only; rw [a98 84 (by decide), (c2.same 84 rfl).2])).1 _ xr.1) xr.2.1 xr.2.2 (by dsimp only; omega) ?_ (fun z2 t2 d1 d2 d3 d4 => hK' z2 t2 ⟨⟨c1, c2, c3, hEQ, hSD⟩, he1, rfl, d1, d2, by rw [es1] at d3; exact d3, d4⟩)
          rw [es1]
          have := rf_RB_CB (b := rf_s1 nr) hRB (rf_CB_trans c3 xc (Nat.le_refl _)) (by omega)
          exact this
        · rintro z e1 t t1 z2 t2 ⟨⟨c1, c2, c3, c4, cS⟩, he1, ht1, d1, d2, d3, d4⟩
          subst ht1
          refine ⟨d1, hn0 (n := .leaf) d1 d4, ?_⟩
          rw [d2.2.1 47 rfl]
          exact c2.2.1 47 rfl
        · rintro z e1 t z2 t2 ⟨i1, i2, i3, i4⟩ ⟨⟨c1, c2, c3, c4, cS⟩, he1, ht1, d1, d2, d3, d4⟩ e2 w he2 hw
          have hz2 := hn0 (n := .leaf) d1 d4
          have f0 : rf_FQ s u := rf_FQ_C g2
          have f1 : rf_FQ u t := rf_FQ_C (rf_FC_FB c2)
          have f2 : rf_FQ t (t.1, sx_ua t.2.1 98 e1.toNat z, t.2.2) := rf_FQ_98 (Or.inl rfl)
          have f3 : rf_FQ (t.1, sx_ua t.2.1 98 e1.toNat z, t.2.2) t2 := rf_FQ_C (rf_FC_FB d2)
          have f4 : rf_FQ t2 (t2.1, sx_ua t2.2.1 99 e2.toNat z2, t2.2.2) := rf_FQ_98 (Or.inr rfl)
          have f5 : rf_FQ (t2.1, sx_ua t2.2.1 99 e2.toNat z2, t2.2.2) (sx_uf t2.1 66 47 w, sx_ua t2.2.1 99 e2.toNat z2, t2.2.2) := rf_FQ_47 (s := (t2.1, sx_ua t2.2.1 99 e2.toNat z2, t2.2.2))
          have f35 := rf_FQ_trans f5 (rf_FQ_trans f4 f3)
          have f25 := rf_FQ_trans f35 f2
          have f15 := rf_FQ_trans f25 f1
          have f45 := rf_FQ_trans f5 f4
          have e9 := c2.2.1 9 rfl
          have e92 := d2.2.1 9 rfl
          have e : ∀ q, q ≠ 47 → sx_uf t2.1 66 47 w 66 q = t2.1 66 q := fun q hq => by
            rw [sx_uf_if]
            exact if_neg (fun c => hq c.2)
          have e47w : sx_uf t2.1 66 47 w 66 47 = w := by
            rw [sx_uf_if]
            exact if_pos ⟨rfl, rfl⟩
          have hcbt : rf_CB s t2 (9 * (hi - lo).toNat) := rf_CB_trans (t := (t.1, sx_ua t.2.1 98 e1.toNat z, t.2.2)) d3 (show rf_CB s t (5 * rf_s1 nl + 5 * rf_s1 nr + rf_s1 nl) from rf_CB_trans c3 xc (Nat.le_refl _)) (by omega)
          have e40u : t2.1 66 40 = u.1 66 40 := (d2.2.1 40 rfl).trans (c2.2.1 40 rfl)
          have hEQ2 : rf_EQ t2 z2 x := by
            obtain ⟨N, n1, n2, n3, n4, n5, ⟨⟨n6, n7⟩, n8⟩, n9⟩ := d4
            rw [rf_mm_ht hrtr] at n8
            exact ⟨N, n1, n5, n7, by omega⟩
          have hSD2 : vk_sd (px_SN bb nb) C M tr t2 z2 := by
            obtain ⟨N, n1, n2, n3, n4, n5, _, n9⟩ := d4
            have hxu : rf_xu t (t.1, sx_ua t.2.1 98 e1.toNat z, t.2.2) := f2.2.2.1
            have h9t : 2 ≤ t.1 66 9 := by omega
            exact vk_sd_mk (s := (t.1, sx_ua t.2.1 98 e1.toNat z, t.2.2)) hE (rf_xu_trans hxu (rf_xu_trans c2.2.2.1 g2.2.2.1)) h9t d2.2.2.1 (d2.same 84 rfl).2 wr (by rw [← hxy]; exact (rf_Rt_up (rf_xu_trans hxu c2.2.2.1) (fun i _ => by dsimp only; rw [sx_ua_ne (by decide), (c2.same 84 rfl).2])).1 _ xr.1) kr n1 n9
          have b98 : (sx_ua t2.2.1 99 e2.toNat z2) 98 = fun j => if j = e1.toNat then z else t.2.1 98 j := by
            rw [sx_ua_ne (by decide), (d2.same 98 rfl).2]
            dsimp only
            rw [sx_ua_same]
          have b99 : (sx_ua t2.2.1 99 e2.toNat z2) 99 = fun j => if j = e2.toNat then z2 else t2.2.1 99 j := sx_ua_same _ _ _ _
          have g98 : ∀ i : Nat, t.2.1 98 i = s.2.1 98 i := fun i => by rw [(c2.same 98 rfl).2, (g2.same 98 rfl).2]
          have g99 : ∀ i : Nat, t2.2.1 99 i = s.2.1 99 i := fun i => by
            rw [(d2.same 99 rfl).2]
            dsimp only
            rw [sx_ua_ne (by decide), (c2.same 99 rfl).2, (g2.same 99 rfl).2]
          refine hK 0 _ (cx_I_uf rfl rfl (cx_I_ua rfl rfl (F := t2.1) (A := t2.2.1) (B := t2.2.2) d1 (by omega) (by omega)) (by omega) (by omega)) (rf_FQ_trans f15 f0) ?_ (rf_CB_same hcbt (e 50 (by decide)) (e 56 (by decide)) (e 58 (by decide)) rfl) (Or.inl ?_) (fun _ => ?_) ⟨fun _ => ⟨by dsimp only; rw [e47w]; omega, by omega, hc3.1 q40⟩, fun z => absurd (by dsimp only; rw [e 40 (by decide), e40u]; exact q40) z⟩ (fun _ => ?_)
          · dsimp only at e92 ⊢
            rw [e 9 (by decide)]
            omega
          · dsimp only
            rw [e 40 (by decide), e40u]
            exact q40
          · intro i hi
            dsimp only at hi
            rw [e47w] at hi
            have a98 : (sx_ua t2.2.1 99 e2.toNat z2) 98 = fun j => if j = e1.toNat then z else t.2.1 98 j := by
              rw [sx_ua_ne (by decide), (d2.same 98 rfl).2]
              dsimp only
              rw [sx_ua_same]
            have a99 : (sx_ua t2.2.1 99 e2.toNat z2) 99 = fun j => if j = e2.toNat then z2 else t2.2.1 99 j := sx_ua_same _ _ _ _
            dsimp only
            rw [a98, a99]
            dsimp only
            by_cases hi2 : (i : Int) = s.1 66 47
            · rw [if_pos (by omega), if_pos (by omega)]
              exact ⟨x, rf_EQ_up f25.2.2.2.1 f25.2.2.1 c4, rf_EQ_up f45.2.2.2.1 f45.2.2.1 hEQ2⟩
            · rw [if_neg (by omega), if_neg (by omega)]
              obtain ⟨y, y1, y2⟩ := hES i (by omega)
              have f05 := rf_FQ_trans f15 f0
              have h98 : t.2.1 98 i = s.2.1 98 i := by rw [(c2.same 98 rfl).2, (g2.same 98 rfl).2]
              have h99 : t2.2.1 99 i = s.2.1 99 i := by
                rw [(d2.same 99 rfl).2]
                dsimp only
                rw [sx_ua_ne (by decide), (c2.same 99 rfl).2, (g2.same 99 rfl).2]
              rw [h98, h99]
              exact ⟨y, rf_EQ_up f05.2.2.2.1 f05.2.2.1 y1, rf_EQ_up f05.2.2.2.1 f05.2.2.1 y2⟩
          · dsimp only
            rw [b98, b99]
            dsimp only
            rw [if_pos (by omega), if_pos (by omega)]
            refine ⟨⟨vk_sd_up (vk_U_Q f25.2.2.2.1 f25.2.2.1) cS, vk_sd_up (vk_U_Q f45.2.2.2.1 f45.2.2.1) hSD2⟩, fun i hi => ?_⟩
            rw [if_neg (by omega), if_neg (by omega)]
            exact ⟨g98 i, g99 i⟩
      · refine w_eq_81 (PB := fun _ _ => False) (PC := fun _ _ _ _ _ _ => False) g1 hr (fun _ => hK 0 u g1 (rf_FQ_C g2) h9u hcb h41 (fun q => absurd q q40) ⟨fun q => absurd q q40, fun _ hh => hc3.2 q40 hh.2⟩ (fun q => absurd q q40)) (fun q => absurd q q40) (fun _ _ q => q.elim) (fun _ _ q => q.elim) (fun _ _ _ _ _ _ q => q.elim) (fun _ _ _ _ _ q => q.elim)
end
section
/-! ===== the reference: what load leaves, with the values of all sides ===== -/
/-- the equations with what is declared ahead of them; all unknowns -/
def vk_eq : List ((Int × Int × qx_T) × (px_N × px_N)) → List (Int × qx_T) → List (Int × qx_T) → List ((List (Int × qx_T) × List (Int × qx_T)) × (px_N × px_N))
  | [], _, _ => []
  | q :: r, C, M => if q.1.1 = 3 then vk_eq r (C ++ [q.1.2]) M else if q.1.1 = 4 then vk_eq r C (M ++ [q.1.2]) else ((C, M), q.2) :: vk_eq r C M
def vk_mf : List ((Int × Int × qx_T) × (px_N × px_N)) → List (Int × qx_T) → List (Int × qx_T)
  | [], M => M
  | q :: r, M => if q.1.1 = 4 then vk_mf r (M ++ [q.1.2]) else vk_mf r M
/-- what load leaves -/
def vk_LD (b : Nat → Int) (n : Int) (l : List ((Int × Int × qx_T) × (px_N × px_N))) (s : sx_S) : Prop := True → px_TX (px_K b n) l 0 ∧ (∃ m, px_DL 97 123 45 m s (vk_mf l [])) ∧ s.1 66 47 = ((vk_eq l [] []).length : Int) ∧ ∀ (k : Nat) p, (vk_eq l [] [])[k]? = some p → vk_sd (px_SN b n) p.1.1 p.1.2 p.2.1 s (s.2.1 98 k) ∧ vk_sd (px_SN b n) p.1.1 p.1.2 p.2.2 s (s.2.1 99 k)
theorem vk_LD_cg {b c : Nat → Int} {n : Int} {l : List ((Int × Int × qx_T) × (px_N × px_N))} {s : sx_S} (h : ∀ k : Nat, (k : Int) < n → b k = c k) (hn : 0 ≤ n) (g : vk_LD b n l s) : vk_LD c n l s := by
  have e1 := px_K_cg h
  have e2 : px_SN b n = px_SN c n := by
    funext i j
    exact propext (px_sn_cg h i.toNat j.toNat hn)
  unfold vk_LD at g ⊢
  rw [← e1, ← e2]
  exact g
end
section
/-! ===== the reference: solve, and what the text's equations ask ===== -/
theorem vs_rl {s : sx_S} {i : Int} : ∀ n : Nat, rf_rl s i n = (List.range n).map (fun q : Nat => s.2.1 105 (i + (q : Int)).toNat)
  | 0 => rfl
  | n + 1 => by
    rw [rf_rl_s, vs_rl n, List.range_succ, List.map_append]
    rfl
theorem vs_g {s : sx_S} {n : Int} {p : Nat → Int → Prop} (hn : s.1 66 50 ≤ n) (hp : ∀ (j : Nat) (r e : Int), (j : Int) < s.1 66 50 → rf_mp s j r .leaf e → s.2.1 101 j = r → p j r) : ∀ {N : rf_N} {z : Int}, rf_no s N z → (∀ t, (rf_gt (rf_H s) rf_P N).1 t → (vr_g n p N).1) ∧ (∀ w t, (rf_gt (rf_H s) rf_P N).2 w t → (vr_g n p N).2)
  | .leaf, _, _ => ⟨fun _ h => h.elim, fun _ _ _ => trivial⟩
  | .inner j k u f x, z, ⟨⟨h1, h2⟩, ⟨h3, h4⟩, h5, h6⟩ => by
    have hf := vs_g hn hp h5
    have hx := vs_g hn hp h6
    have one : ∀ t, (rf_gt (rf_H s) rf_P (.inner j k u f x)).1 t → (vr_g n p (.inner j k u f x)).1 := by
      rintro t (⟨k0, A, B, _, _, hB⟩ | ⟨k0, w, hw, hr, _⟩)
      · exact ⟨by omega, Or.inl ⟨k0, hf.1 B hB⟩⟩
      · refine ⟨by omega, ?_⟩
        rcases hw with ⟨e, _⟩ | ⟨e, _⟩ | ⟨e, _⟩ | ⟨e, _, e', hm⟩
        · exact absurd e k0
        · exact Or.inr (Or.inr ⟨Or.inl e, hf.2 _ _ hr⟩)
        · exact Or.inr (Or.inr ⟨Or.inr e, hf.2 _ _ hr⟩)
        · exact Or.inr (Or.inl ⟨e, hp j _ e' h2 hm h4⟩)
    refine ⟨one, fun w t h => ?_⟩
    obtain ⟨A, B, _, g1, g2⟩ := h
    exact ⟨one A g1, hx.2 B t g2⟩
theorem vs_mt {n : Int} {p : Nat → Int → Prop} {m : Int} : ∀ {A : rf_N}, ((vr_g n p A).1 → vx_mt m (vr_1 A) → ∃ j, p j m) ∧ ((vr_g n p A).2 → vx_mt m (vr_c A) → ∃ j, p j m)
  | .leaf => ⟨fun h => h.elim, fun _ h => h.elim⟩
  | .inner j k u f x => by
    have hf := vs_mt (n := n) (p := p) (m := m) (A := f)
    have hx := vs_mt (n := n) (p := p) (m := m) (A := x)
    have key : (vr_g n p (.inner j k u f x)).1 → ((k.1 = 3 ∧ k.2 = m) ∨ (k.1 ≠ 3 ∧ vx_mt m (vr_f k.1 f))) → ∃ j, p j m := by
      rintro ⟨hj, h⟩ hm
      rcases hm with ⟨c, hm⟩ | ⟨c, hm⟩
      · rcases h with ⟨k0, _⟩ | ⟨_, h⟩ | ⟨k2, _⟩
        · omega
        · exact ⟨j, by rw [← hm]; exact h⟩
        · omega
      · rcases h with ⟨k0, h⟩ | ⟨k3, _⟩ | ⟨k2, h⟩
        · rw [vr_f_0 k0] at hm
          exact hf.1 h hm
        · exact absurd k3 c
        · rw [vr_f_2 k2] at hm
          exact hf.2 h hm
    constructor
    · intro h hm
      rw [vr_1_in] at hm
      rcases hm with hm | hm | hm
      · exact key h (Or.inl hm)
      · exact key h (Or.inr hm)
      · exact hm.elim
    · intro h hm
      rw [vr_c_in] at hm
      rcases hm with hm | hm | hm
      · exact key h.1 (Or.inl hm)
      · exact key h.1 (Or.inr hm)
      · exact hx.2 h.2 hm
/-- closed sides: at which depth they are compared makes no difference -/
theorem vs_lev {th : Int → rf_N} {AR AR' : Nat → List Int} (hg : vx_gd th) {A B W V : rf_N} (hA : ∀ (e e' : Int → Int) (L : Int), vx_val th AR A e L = vx_val th AR' W e' L) (hB : ∀ (e e' : Int → Int) (L : Int), vx_val th AR B e L = vx_val th AR' V e' L) (e e' : Int → Int) (L L' : Int) : vx_val th AR A e L = vx_val th AR B e L ↔ vx_val th AR' W e' L' = vx_val th AR' V e' L' := by
  have key : ∀ (L L' : Int), vx_val th AR A e L = vx_val th AR B e L → vx_val th AR A e L' = vx_val th AR B e L' := fun L L' q => by
    have q2 : vx_re (fun x => x - L + L') (vx_val th AR A e L) = vx_re (fun x => x - L + L') (vx_val th AR B e L) := by rw [q]
    rw [vx_val_re hg (L' := L') (fun i _ => by show L + i - L + L' = L' + i; omega), vx_val_re hg (L' := L') (fun i _ => by show L + i - L + L' = L' + i; omega)] at q2
    rw [hA e e' L', hB e e' L', ← hA (fun v => e v - L + L') e' L', ← hB (fun v => e v - L + L') e' L']
    exact q2
  constructor
  · intro q
    rw [← hA e e' L', ← hB e e' L']
    exact key L L' q
  · intro q
    rw [← hA e e' L', ← hB e e' L'] at q
    exact key L' L q
/-- how many ARGs an unknown takes; values for the unknowns; they solve the first k equations -/
def vs_ra (M : List (Int × qx_T)) (m : Int) : Int := ((M[m.toNat]?).map (fun q => ((rf_args (qx_sh q.2)).length : Int))).getD 0
def vs_B (M : List (Int × qx_T)) (th : Int → rf_N) : Prop := vx_gd th ∧ ∀ u, 0 ≤ u → u < (M.length : Int) → vx_sc (th u) (vs_ra M u)
def vs_E (AR : Nat → List Int) (tl : List (rf_N × rf_N)) (k : Int) (th : Int → rf_N) : Prop := ∀ q, tl[k.toNat]? = some q → vx_val th AR q.1 (dv_lk []) 0 = vx_val th AR q.2 (dv_lk []) 0
def vs_Q (AR : Nat → List Int) (tl : List (rf_N × rf_N)) (k : Int) (th : Int → rf_N) : Prop := ∀ i : Int, 0 ≤ i → i < k → vs_E AR tl i th
def vs_sat (AR : Nat → List Int) (tl : List (rf_N × rf_N)) (M : List (Int × qx_T)) : Prop := ∃ th, vs_B M th ∧ vs_Q AR tl (tl.length : Int) th
/-- the desk's trees of the equations -/
def vs_tl (SN : Int → Int → Prop) (TV : Int → qx_T → Prop) (AR : Nat → List Int) (E : List ((List (Int × qx_T) × List (Int × qx_T)) × (px_N × px_N))) (tl : List (rf_N × rf_N)) : Prop := tl.length = E.length ∧ ∀ (k : Nat) p, E[k]? = some p → ∃ W V x y, tl[k]? = some (W, V) ∧ (vl_tm SN p.1.1 p.1.2 TV AR p.2.1).1 W [] [] x ∧ (vl_tm SN p.1.1 p.1.2 TV AR p.2.2).1 V [] [] y
theorem vs_ar {s u : sx_S} {M : List (Int × qx_T)} {mt : Int} (hD : px_DL 97 123 45 mt s M) (h9 : 2 ≤ s.1 66 9) (xu : rf_xu s u) (hU : rf_UK u) {m : Int} (h0 : 0 ≤ m) (h1 : m < (M.length : Int)) : rf_aa u m = vs_ra M m ∧ m < u.1 66 61 := by
  obtain ⟨d1, d2⟩ := hD trivial
  have e45 := (xu.2 0).1.2.2.2.2
  obtain ⟨e, b1, _, _, b4⟩ := d2 m.toNat (by omega)
  obtain ⟨u1, u2⟩ := hU
  obtain ⟨x, i1, _, i3, _⟩ := u2 m h0 (by omega)
  rw [(xu.2 m.toNat).2.2.2.2.2] at i1
  have ex : x = qx_sh e.2 := rf_ty_inj i1 (rf_is_up (qx_ty_sh h9 b4) xu.1)
  refine ⟨?_, by omega⟩
  unfold vs_ra
  rw [b1, i3, ex]
  rfl
/-- the rows of the nodes that load made, as solving sees them -/
theorem vs_p {s u : sx_S} {AR : Nat → List Int} (hZ : rf_Z s u) (hU : rf_UK u) (hR : ∀ i m ws, vk_RX s i m ws → AR i = ws) : ∀ (j : Nat) (r e : Int), (j : Int) < s.1 66 50 → rf_mp s j r .leaf e → s.2.1 101 j = r → vr_p u AR j r := fun j r e hj hm h101 => by
  have xu := rf_Z_xu hZ
  obtain ⟨x, ⟨⟨r0, r1⟩, a5, f0, f1⟩, is', rp'⟩ := hm
  have hl := rf_rp_len rp'
  have e45 := (xu.2 0).1.2.2.2.2
  have e0 := (xu.2 0).1
  obtain ⟨u1, u2⟩ := hU
  obtain ⟨x2, i1, _, i3, _⟩ := u2 r r0 (by omega)
  rw [(xu.2 r.toNat).2.2.2.2.2] at i1
  have ex : x2 = x := rf_ty_inj i1 (rf_is_up is' xu.1)
  subst ex
  have e104 := (xu.2 j).2.2.2.1 hj
  refine ⟨⟨by omega, ⟨r0, by omega⟩, ⟨by omega, by omega⟩⟩, ?_⟩
  rw [hR j r (rf_rl s (s.2.1 104 j) (rf_args x2).length) ⟨⟨⟨hj, ⟨f0, by rw [rf_rl_len]; omega⟩, by rw [rf_rl_len]⟩, x2, is', by rw [rf_rl_len]⟩, h101, r0, r1⟩, vs_rl]
  unfold vr_rw
  rw [i3, Int.toNat_natCast]
  apply List.map_congr_left
  intro q hq
  have hq' := List.mem_range.mp hq
  unfold rf_rv1
  rw [e104]
  exact ((xu.2 (s.2.1 104 j + (q : Int)).toNat).2.2.1 (by omega)).symm
/-- what is known of all solutions -/
def vs_J (s : sx_S) (AR' : Nat → List Int) (tl : List (rf_N × rf_N)) (M : List (Int × qx_T)) (u : sx_S) (g : rf_Gh) (AR : Nat → List Int) (k : Int) : Prop := True → vr_G u g AR ∧ (∀ i m ws, vk_RX s i m ws → AR i = ws) ∧ (∀ th, vx_So (vr_S u g AR) th → vs_B M th ∧ vs_Q AR' tl k th) ∧ ∀ th, vs_B M th → vs_Q AR' tl k th → ∃ th', vx_So (vr_S u g AR) th' ∧ vx_ag (M.length : Int) th th'
def vs_I3 (AR' : Nat → List Int) (tl : List (rf_N × rf_N)) (M : List (Int × qx_T)) (s u : sx_S) (k : Int) : Prop := ∃ (g : rf_Gh) (AR : Nat → List Int), ((cx_I u ∧ rf_MI (u.1 66 71) (u.1 66 58) u g ∧ rf_ph u g ≤ 1150 ∧ rf_RM 0 u) ∧ rf_UK u ∧ rf_Z s u ∧ (u.1 66 71 + 2700 * (rf_qu u : Int) ≤ 2700 * (25 + k) ∧ u.1 66 58 + 2700 * (rf_qu u : Int) ≤ 11000 + 2700 * (25 + k)) ∧ u.1 66 78 = 0) ∧ vs_J s AR' tl M u g AR k
theorem vs_I1_I3 {s u : sx_S} {AR' : Nat → List Int} {tl : List (rf_N × rf_N)} {M : List (Int × qx_T)} {mt : Int} (hD : px_DL 97 123 45 mt s M) (h9 : 2 ≤ s.1 66 9) (hs : (0 ≤ s.1 66 50 ∧ s.1 66 50 ≤ 22000) ∧ (0 ≤ s.1 66 56 ∧ s.1 66 56 ≤ 11000) ∧ (0 ≤ s.1 66 58 ∧ s.1 66 58 ≤ 11000)) (h71 : s.1 66 71 = 0) (h70 : s.1 66 70 = 0) (h78 : s.1 66 78 = 0) (h45 : 0 ≤ s.1 66 45 ∧ s.1 66 45 ≤ 5) (h : rf_I1 s u (s.1 66 45)) : vs_I3 AR' tl M s u 0 := by
  have hb := rf_I1_bd h45 h
  have hM := rf_I1_MI (nb := u.1 66 71) (ib := u.1 66 58) h
  have hU := rf_I1_UK h
  have hZ := rf_Z_I1 h
  have xu := rf_Z_xu hZ
  have lM := (hD trivial).1
  obtain ⟨⟨a1, a2, a3⟩, a4, a5, a6⟩ := h
  have e50 := a3 50 rfl
  have e56 := a3 56 rfl
  have e58 := a3 58 rfl
  have e70 := a3 70 rfl
  have e71 := a3 71 rfl
  have no : ∀ x : Int, 0 ≤ x → x < u.1 66 61 → u.2.1 111 x.toNat = 0 := fun x x0 x1 => (a6 x x0 (by omega)).1
  refine ⟨rf_g0 u, fun j => vr_rw u j (u.2.1 101 j), ⟨⟨a1, hM, hb.1, by omega, by omega, by omega, by omega, by omega, by omega⟩, hU, hZ, by omega, (a3 78 rfl).trans h78⟩, fun _ => ⟨fun x x0 x1 hx => absurd (no x x0 x1) hx, fun i m ws q => ?_, fun th hT => ⟨⟨hT.1, fun m m0 m1 => ?_⟩, fun i i0 i1 => by omega⟩, fun th hB _ => ⟨th, ⟨hB.1, fun m m0 m1 => ?_, fun x B e he => ?_⟩, fun _ _ _ => rfl⟩⟩⟩
  · obtain ⟨⟨⟨g1, ⟨g2, g3⟩, g4⟩, x, g5, g6⟩, g7, g8, g9⟩ := q
    obtain ⟨_, x', i1, _, i3, _⟩ := a6 m g8 (by omega)
    have ex : x' = x := rf_ty_inj i1 g5
    subst ex
    have e101 : u.2.1 101 i = m := by rw [(a2.same 101 rfl).2]; exact g7
    show vr_rw u i (u.2.1 101 i) = ws
    rw [e101, ← g4, vs_rl]
    unfold vr_rw rf_aa
    rw [i3, Int.toNat_natCast, g6]
    apply List.map_congr_left
    intro q _
    unfold rf_rv1
    rw [(a2.same 104 rfl).2, (a2.same 105 rfl).2]
  · obtain ⟨v1, v2⟩ := vs_ar hD h9 xu hU m0 m1
    have := hT.2.1 m m0 v2
    rw [← v1, ← vr_ar_at ⟨m0, v2⟩]
    exact this
  · have m1' : m < u.1 66 61 := m1
    obtain ⟨v1, v2⟩ := vs_ar hD h9 xu hU m0 (by omega)
    show vx_sc (th m) (vr_ar u m)
    rw [vr_ar_at ⟨m0, v2⟩, v1]
    exact hB.2 m m0 (by omega)
  · obtain ⟨b1, b2, _⟩ := vr_bo_some he
    exact absurd (no x b1.1 b1.2) b2
/-- one equation more -/
theorem vs_I3_s {s u t : sx_S} {AR' : Nat → List Int} {tl : List (rf_N × rf_N)} {M : List (Int × qx_T)} {g : rf_Gh} {AR : Nat → List Int} {k z : Int} {p : Nat} {P : (Int → rf_N) → Prop} (hI : cx_I u) (k0 : 0 ≤ k) (hM61 : (M.length : Int) ≤ u.1 66 61) (hp : p ≤ 2700) (h1 : rf_UK u) (h2 : rf_Z s u) (h3 : u.1 66 71 + 2700 * (rf_qu u : Int) ≤ 2700 * (25 + k) ∧ u.1 66 58 + 2700 * (rf_qu u : Int) ≤ 11000 + 2700 * (25 + k)) (h8 : u.1 66 78 = 0) (hJ : vs_J s AR' tl M u g AR k) (hP : ∀ th, vx_So (vr_S u g AR) th → (P th ↔ vs_E AR' tl k th)) (hX : ∀ th th', vx_gd th → vx_gd th' → vx_ag (M.length : Int) th th' → vs_E AR' tl k th → vs_E AR' tl k th') (h : vr_PU u t g AR z p P) (hz : z ≠ 0) : vs_I3 AR' tl M s t (k + 1) := by
  obtain ⟨_, c1, c2, _, c3⟩ := h
  obtain ⟨g', AR2, d1, d2, _, ⟨d3, d4, d5⟩, d6, d7, _, _, e1, e2, e3⟩ := c3 hz
  obtain ⟨j1, j2, j3, j4⟩ := hJ trivial
  obtain ⟨y1, y2, y3⟩ := e3 trivial
  have hm := rf_mul_bd d5 hp
  have hz' := rf_Z_FS c2
  have h50 := h2.2.2.1
  refine ⟨g', AR2, ⟨⟨c1, d1, d3, d4⟩, rf_UK_up d2 (hz'.1.2 45 rfl) (hz'.1.1.same 123 rfl).2 h1, rf_Z_trans hz' h2, ⟨?_, ?_⟩, (c2.1.2 78 rfl).trans h8⟩, fun _ => ⟨e1, fun i m ws q => ?_, fun th hT => ?_, fun th hB hQ => ?_⟩⟩
  · omega
  · omega
  · rw [e2 i (by have := q.1.1.1; omega)]
    exact j2 i m ws q
  · have hS := vx_So_le (vr_W hI j1) y1 hT
    obtain ⟨b1, b2⟩ := j3 th hS
    refine ⟨b1, fun i i0 i1 => ?_⟩
    by_cases c : i < k
    · exact b2 i i0 c
    · have ei : i = k := by omega
      rw [ei]
      exact (hP th hS).mp (y2 th hT)
  · obtain ⟨th', s1, s2⟩ := j4 th hB (fun i i0 i1 => hQ i i0 (by omega))
    have hE := hX th th' hB.1 s1.1 s2 (hQ k k0 (by omega))
    obtain ⟨th2, w1, w2⟩ := y3 th' s1 ((hP th' s1).mpr hE)
    refine ⟨th2, w1, fun m m0 m1 => ?_⟩
    have e4 : (vr_S u g AR).1 = u.1 66 61 := rfl
    rw [w2 m m0 (by omega), s2 m m0 m1]
theorem vs_no {s u : sx_S} {AR' : Nat → List Int} {tl : List (rf_N × rf_N)} {M : List (Int × qx_T)} {g : rf_Gh} {AR : Nat → List Int} {k : Int} {P : (Int → rf_N) → Prop} (k0 : 0 ≤ k) (kl : k < (tl.length : Int)) (hJ : vs_J s AR' tl M u g AR k) (hP : ∀ th, vx_So (vr_S u g AR) th → (P th ↔ vs_E AR' tl k th)) (hX : ∀ th th', vx_gd th → vx_gd th' → vx_ag (M.length : Int) th th' → vs_E AR' tl k th → vs_E AR' tl k th') (hN : vr_N (vr_S u g AR) P) : ¬ vs_sat AR' tl M := by
  rintro ⟨th, hB, hQ⟩
  obtain ⟨j1, j2, j3, j4⟩ := hJ trivial
  obtain ⟨th', s1, s2⟩ := j4 th hB (fun i i0 i1 => hQ i i0 (by omega))
  exact hN th' s1 ((hP th' s1).mpr (hX th th' hB.1 s1.1 s2 (hQ k k0 kl)))
theorem vs_yes {s u : sx_S} {AR' : Nat → List Int} {tl : List (rf_N × rf_N)} {M : List (Int × qx_T)} {g : rf_Gh} {AR : Nat → List Int} {nb ib : Int} (hI : cx_I u) (hM : rf_MI nb ib u g) (hJ : vs_J s AR' tl M u g AR (tl.length : Int)) : vs_sat AR' tl M := by
  obtain ⟨j1, j2, j3, j4⟩ := hJ trivial
  obtain ⟨th, h⟩ := vr_fin hI hM j1
  exact ⟨th, j3 th h⟩
/-- the two sides of an equation, as solving meets them -/
theorem vs_eq {s u : sx_S} {SN : Int → Int → Prop} {C M0 : List (Int × qx_T)} {n1 n2 : px_N} {z1 z2 : Int} {x1 x2 : rf_T} {TV : Int → qx_T → Prop} {AR AR' : Nat → List Int} {tl : List (rf_N × rf_N)} {M : List (Int × qx_T)} {k : Int} {W V : rf_N} {y1 y2 : qx_T} (hZ : rf_Z s u) (hU : rf_UK u) (hR : ∀ i m ws, vk_RX s i m ws → AR i = ws) (h45 : s.1 66 45 = (M.length : Int)) (d1 : vk_sd SN C M0 n1 s z1) (d2 : vk_sd SN C M0 n2 s z2) (q1 : rf_EQ s z1 x1) (q2 : rf_EQ s z2 x2) (ht : tl[k.toNat]? = some (W, V)) (t1 : (vl_tm SN C M0 TV AR' n1).1 W [] [] y1) (t2 : (vl_tm SN C M0 TV AR' n2).1 V [] [] y2) : ∃ A B : rf_N, (rf_no u A z1 ∧ rf_no u B z2) ∧ (vr_t u AR A ∧ vr_t u AR B) ∧ (∀ (L : Int) th, vx_gd th → (vr_E AR A .leaf B .leaf L th ↔ vs_E AR' tl k th)) ∧ ∀ th th', vx_gd th → vx_gd th' → vx_ag (M.length : Int) th th' → vs_E AR' tl k th → vs_E AR' tl k th' := by
  obtain ⟨A, ⟨a1, a2⟩, a3⟩ := d1
  obtain ⟨B, ⟨b1, b2⟩, b3⟩ := d2
  obtain ⟨A', e1, e2, _⟩ := q1
  obtain ⟨B', f1, f2, _⟩ := q2
  obtain rfl := rf_nd_fun a1 e1
  obtain rfl := rf_nd_fun b1 f1
  have xu := rf_Z_xu hZ
  have h50 := hZ.2.2.1
  have ag : rf_ag 100 103 (s.1 66 50) s u := fun p j h1 h2 h3 => hZ.2.1.1 p j h1 (by omega) h3
  have eqv : ∀ (L : Int) th, vx_gd th → (vr_E AR A .leaf B .leaf L th ↔ vs_E AR' tl k th) := fun L th hg => by
    have on : ∀ m, vx_on (th m) := fun m => (hg m).1
    have l := vs_lev (A := A) (B := B) (W := W) (V := V) (AR := AR) (AR' := AR') hg (fun e e' L => a3 th AR on hR TV AR' W y1 e e' L t1) (fun e e' L => b3 th AR on hR TV AR' V y2 e e' L t2) (rf_look .leaf) (dv_lk []) L 0
    unfold vr_E vr_V
    rw [a2, b2, l]
    constructor
    · intro h q hq
      have eq : (W, V) = q := Option.some.inj (ht.symm.trans hq)
      rw [← eq]
      exact h
    · intro h
      exact h (W, V) ht
  have mb : ∀ {N : rf_N} {z : Int} {x : rf_T}, rf_no s N z → (rf_gt (rf_H s) rf_P N).1 x → vr_1 N = N → ∀ m, vx_mt m N → 0 ≤ m ∧ m < s.1 66 45 := fun {N z x} n1 n2 n3 m hm => by
    have g := (vs_g (n := s.1 66 50) (p := fun _ r => 0 ≤ r ∧ r < s.1 66 45) (Int.le_refl _) (fun j r e _ hm' _ => by
      obtain ⟨x, ⟨h, _⟩, _⟩ := hm'
      exact h) n1).1 x n2
    obtain ⟨_, h⟩ := vs_mt.1 g (by rw [n3]; exact hm)
    exact h
  refine ⟨A, B, ⟨rf_no_up ag h50 a1, rf_no_up ag h50 b1⟩, ⟨(vs_g h50 (vs_p hZ hU hR) a1).1 _ e2, (vs_g h50 (vs_p hZ hU hR) b1).1 _ f2⟩, eqv, fun th th' g1 g2 hag hE => ?_⟩
  have o1 : ∀ m, vx_on (th m) := fun m => (g1 m).1
  have o2 : ∀ m, vx_on (th' m) := fun m => (g2 m).1
  intro q hq
  have eq : (W, V) = q := Option.some.inj (ht.symm.trans hq)
  have h := hE (W, V) ht
  rw [← eq]
  show vx_val th' AR' W (dv_lk []) 0 = vx_val th' AR' V (dv_lk []) 0
  have w1 : vx_val th' AR' W (dv_lk []) 0 = vx_val th AR' W (dv_lk []) 0 := by
    rw [← a3 th' AR o2 hR TV AR' W y1 (dv_lk []) (dv_lk []) 0 t1, ← a3 th AR o1 hR TV AR' W y1 (dv_lk []) (dv_lk []) 0 t1]
    exact vx_val_th (fun m hm => hag m (mb a1 e2 a2 m hm).1 (by have := (mb a1 e2 a2 m hm).2; omega)) (fun _ _ => rfl)
  have w2 : vx_val th' AR' V (dv_lk []) 0 = vx_val th AR' V (dv_lk []) 0 := by
    rw [← b3 th' AR o2 hR TV AR' V y2 (dv_lk []) (dv_lk []) 0 t2, ← b3 th AR o1 hR TV AR' V y2 (dv_lk []) (dv_lk []) 0 t2]
    exact vx_val_th (fun m hm => hag m (mb b1 f2 b2 m hm).1 (by have := (mb b1 f2 b2 m hm).2; omega)) (fun _ _ => rfl)
  rw [w1, w2]
  exact h
/-! what load left stays -/
theorem vk_LD_u {b : Nat → Int} {n : Int} {l : List ((Int × Int × qx_T) × (px_N × px_N))} {s t : sx_S} (hU : vk_U s t) (h45 : t.1 66 45 = s.1 66 45) (h47 : t.1 66 47 = s.1 66 47) (h97 : t.2.1 97 = s.2.1 97) (h123 : t.2.1 123 = s.2.1 123) (h98 : t.2.1 98 = s.2.1 98) (h99 : t.2.1 99 = s.2.1 99) (h : vk_LD b n l s) : vk_LD b n l t := fun _ => by
  obtain ⟨a1, ⟨m, a2⟩, a3, a4⟩ := h trivial
  refine ⟨a1, ⟨m, px_DL_up a2 h45 (hU trivial).1.2.2.2 h97 h123⟩, by rw [h47]; exact a3, fun k p hp => ?_⟩
  obtain ⟨b1, b2⟩ := a4 k p hp
  rw [h98, h99]
  exact ⟨vk_sd_up hU b1, vk_sd_up hU b2⟩
theorem vk_Z_LD {b : Nat → Int} {n : Int} {l : List ((Int × Int × qx_T) × (px_N × px_N))} {s t : sx_S} (g : vk_LD b n l (rf_l0 s)) (h : rf_Z (rf_z8 s) t) : vk_LD b n l (rf_l0 t) := by
  obtain ⟨⟨z1, z2, z3⟩, _, z4⟩ := rf_z8_f (s := s)
  obtain ⟨l1, l2, l3, l4, _⟩ := rf_l0_f (s := s)
  obtain ⟨m1, m2, m3, m4, _⟩ := rf_l0_f (s := t)
  obtain ⟨⟨a1, a2⟩, ⟨a3, a4, a5⟩, a6, a7, a8⟩ := h
  have Z : ∀ k, k ≠ 50 → k ≠ 56 → k ≠ 58 → k ≠ 71 → k ≠ 61 → k ≠ 64 → k ≠ 70 → k ≠ 78 → k ≠ 79 → k ≠ 83 → k ≠ 86 → k ≠ 89 → t.1 66 k = s.1 66 k := fun k h1 h2 h3 h4 h5 h6 h7 h8 h9 h10 h11 h12 => (a2 k (by simp [h1, h2, h3, h4, h5, h6, h7, h8, h9, h10, h11, h12])).trans (z4 k h1 h2 h3 h4 h5 h6 h7 h8)
  have t9 := Z 9 (by decide) (by decide) (by decide) (by decide) (by decide) (by decide) (by decide) (by decide) (by decide) (by decide) (by decide) (by decide)
  have t45 := Z 45 (by decide) (by decide) (by decide) (by decide) (by decide) (by decide) (by decide) (by decide) (by decide) (by decide) (by decide) (by decide)
  have t47 := Z 47 (by decide) (by decide) (by decide) (by decide) (by decide) (by decide) (by decide) (by decide) (by decide) (by decide) (by decide) (by decide)
  have t75 := Z 75 (by decide) (by decide) (by decide) (by decide) (by decide) (by decide) (by decide) (by decide) (by decide) (by decide) (by decide) (by decide)
  have t76 := Z 76 (by decide) (by decide) (by decide) (by decide) (by decide) (by decide) (by decide) (by decide) (by decide) (by decide) (by decide) (by decide)
  have y9 : (rf_l0 t).1 66 9 = (rf_l0 s).1 66 9 := ((m4 9 (by decide) (by decide) (by decide)).trans t9).trans (l4 9 (by decide) (by decide) (by decide)).symm
  have y45 : (rf_l0 t).1 66 45 = (rf_l0 s).1 66 45 := ((m4 45 (by decide) (by decide) (by decide)).trans t45).trans (l4 45 (by decide) (by decide) (by decide)).symm
  have y47 : (rf_l0 t).1 66 47 = (rf_l0 s).1 66 47 := ((m4 47 (by decide) (by decide) (by decide)).trans t47).trans (l4 47 (by decide) (by decide) (by decide)).symm
  have u72 : (rf_l0 t).2.1 72 = (rf_l0 s).2.1 72 := (a1.same 72 rfl).2
  have u73 : (rf_l0 t).2.1 73 = (rf_l0 s).2.1 73 := (a1.same 73 rfl).2
  have u97 : (rf_l0 t).2.1 97 = (rf_l0 s).2.1 97 := (a1.same 97 rfl).2
  have u123 : (rf_l0 t).2.1 123 = (rf_l0 s).2.1 123 := (a1.same 123 rfl).2
  have u98 : (rf_l0 t).2.1 98 = (rf_l0 s).2.1 98 := (a1.same 98 rfl).2
  have u99 : (rf_l0 t).2.1 99 = (rf_l0 s).2.1 99 := (a1.same 99 rfl).2
  exact vk_LD_u (s := rf_l0 s) (t := rf_l0 t) (fun _ => ⟨⟨by omega, by omega, by omega, fun j => ⟨by omega, fun _ => ⟨by rw [u72], by rw [u73]⟩⟩⟩, fun p j h1 h2 h3 => a3 p j h1 (by omega) (by omega), fun j => ⟨fun hj => a3 104 j (by omega) (by omega) (by omega), fun hj => a4 105 j (by omega) (by omega) (by omega), fun _ => by rw [u123]⟩⟩) y45 y47 u97 u123 u98 u99 g
end
section
/-! ===== feed: the same bytes in both tapes ===== -/
def dz_sh (f : Int32 → Int32 → Int32) (w x : Int) : Int := sx_b (fun x y => x &&& y) (sx_b f w x) 255
def dz_us : Int32 → Int32 → Int32 := fun x y => (x.toUInt32 >>> (y.toUInt32 &&& Int32.toUInt32 31)).toInt32
def dz_ss : Int32 → Int32 → Int32 := fun x y => x >>> (y &&& 31)
theorem dz_bv (v : BitVec 32) (s : Nat) (hs : s ≤ 24) : (v >>> s) &&& 255#32 = (v.sshiftRight s) &&& 255#32 := by
  apply BitVec.eq_of_getLsbD_eq
  intro i hi
  rw [BitVec.getLsbD_and, BitVec.getLsbD_and, BitVec.getLsbD_ushiftRight, BitVec.getLsbD_sshiftRight]
  by_cases h : i < 8
  · have h1 : s + i < 32 := by omega
    have h2 : ¬ 32 ≤ i := by omega
    simp [h1, h2]
  · have h255 : ∀ j, j < 32 → 8 ≤ j → (255#32).getLsbD j = false := by decide
    rw [h255 i hi (by omega), Bool.and_false, Bool.and_false]
theorem dz_byte {w x : Int} (hx : x = 24 ∨ x = 16 ∨ x = 8 ∨ x = 0) : dz_sh dz_us w x = dz_sh dz_ss w x := by
  unfold dz_sh sx_b
  rw [Int32.ofInt_toInt, Int32.ofInt_toInt]
  generalize Int32.ofInt w = W
  apply congrArg Int32.toInt
  apply Int32.toBitVec_inj.mp
  rcases hx with rfl | rfl | rfl | rfl
  · exact dz_bv W.toBitVec 24 (by decide)
  · exact dz_bv W.toBitVec 16 (by decide)
  · exact dz_bv W.toBitVec 8 (by decide)
  · exact dz_bv W.toBitVec 0 (by decide)
theorem w_tw {CALL : sx_Ca} {sL : Nat} {sx : Nat → Int32} {Q : Nat → sx_L → sx_S → Prop} {R : Int → sx_S → Prop} {s : sx_S} {a0 : Int} (hQ : Q 3 [(0, .inr (.inl 0)), (1, .inl a0), (2, .inl 24)] s) : sx_wp true sL sx eX11_takeWord CALL [(3, [0, 1, 2])] Q R 400 0 (sx_argsF 0 [.inr (.inl 0), .inl a0]) [] s := by
  repeat' (first | (with_reducible (rintro _ rfl)) | (with_reducible intro _) | (refine And.intro ?_ ?_) | (fail))
  all_goals (try dsimp only at *)
  all_goals (first | trivial | assumption | omega | skip)
theorem w_tw_3 {CALL : sx_Ca} {sL : Nat} {sx : Nat → Int32} {Q : Nat → sx_L → sx_S → Prop} {R : Int → sx_S → Prop} {s : sx_S} {a0 x2 : Int} (hI : cx_I s) (ra : -2147483648 ≤ a0 ∧ a0 ≤ 2147483647) (r2 : -8 ≤ x2 ∧ x2 ≤ 24) (hf : 0 ≤ x2 → s.1 0 1 < 240) (hK : x2 < 0 → R 0 s) (hQ : 0 ≤ x2 → ∀ v, v = dz_sh dz_us a0 x2 → (0 ≤ v ∧ v ≤ 255) → Q 3 [(0, .inr (.inl 0)), (1, .inl a0), (2, .inl (x2 - 8))] (sx_uf s.1 0 1 (s.1 0 1 + 1), sx_ua s.2.1 1 (s.1 0 1).toNat v, s.2.2)) : sx_wp true sL sx eX11_takeWord CALL [(3, [0, 1, 2])] Q R 400 3 [(0, .inr (.inl 0)), (1, .inl a0), (2, .inl x2)] [] s := by
  have h1 := hI.fld 0 1 (by decide) rfl
  have zzy : sx_w true (s.1 0 1 + 1) = s.1 0 1 + 1 := px_wid (by omega) (by omega)
  have zzx : sx_w true (x2 + -8) = x2 - 8 := by rw [px_wid (by omega) (by omega)]; omega
  rw [← zzy, ← zzx] at hQ
  have zzI : ∀ v : Int, 0 ≤ v → v ≤ 255 → cx_I (s.1, sx_ua s.2.1 1 (s.1 0 1).toNat v, s.2.2) := fun v a b => cx_I_ua rfl rfl hI a b
  by_cases hx : 0 ≤ x2
  · have hf' := hf hx
    have hQ' := hQ hx
    clear hK hQ
    repeat' (first | (with_reducible (rintro _ rfl)) | (with_reducible intro _) | (refine And.intro ?_ ?_) | (fail))
    all_goals (try dsimp only at *)
    all_goals (first | trivial | assumption | omega | (exfalso; omega) | (refine zzI _ ?_ ?_ <;> omega) | (refine hQ' _ ?_ ?_ <;> first | rfl | assumption | omega) | skip)
  · have hK' := hK (by omega)
    clear hQ
    repeat' (first | (with_reducible (rintro _ rfl)) | (with_reducible intro _) | (refine And.intro ?_ ?_) | (fail))
    all_goals (try dsimp only at *)
    all_goals (first | trivial | assumption | omega | (exfalso; omega) | skip)
end
