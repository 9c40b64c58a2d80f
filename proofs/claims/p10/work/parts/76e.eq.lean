/-! ===== the reference: equation, with values ===== -/
theorem c_v_equation {sL : Nat} {sx : Nat → Int32} (hsL : sL ≤ 3072) (bb : Nat → Int) (nb mt : Int) (C M : List (Int × qx_T)) (hmt : mt ≤ 242) (d : Nat) (hd : 320 ≤ d) : ∀ (tl tr : px_N) (r lo mid hi : Int) (s : sx_S) (K : Int → sx_S → Prop), cx_I s → (0 ≤ r ∧ r ≤ 59) → px_tr lo mid s (s.2.1 90 r.toNat) tl → px_tr mid hi s (s.2.1 91 r.toNat) tr → ((px_sh tl).1 ∧ (px_hh tl).1 ≤ 22 ∧ px_tb mt tl) → ((px_sh tr).1 ∧ (px_hh tr).1 ≤ 22 ∧ px_tb mt tr) → px_E bb nb mt C M s → (0 ≤ s.2.1 90 r.toNat ∧ 0 ≤ s.2.1 91 r.toNat) → (0 ≤ lo ∧ lo ≤ mid ∧ mid ≤ hi) → s.1 66 8 = 0 → rf_CK s → rf_ES s → s.1 66 40 = 0 → s.1 66 34 = 0 → (2 ≤ s.1 66 9 ∧ s.1 66 9 + (hi - lo) ≤ 5990) → rf_RB s (9 * (hi - lo).toNat) → (∀ (z : Int) (t : sx_S), cx_I t → rf_FQ s t → (s.1 66 9 ≤ t.1 66 9 ∧ t.1 66 9 ≤ s.1 66 9 + (hi - lo)) → rf_CB s t (9 * (hi - lo).toNat) → (t.1 66 40 = 0 ∨ (0 ≤ t.1 66 41 ∧ t.1 66 41 ≤ 241)) → (t.1 66 40 = 0 → rf_ES t) → ((t.1 66 40 = 0 → t.1 66 47 = s.1 66 47 + 1 ∧ s.1 66 47 ≤ 3 ∧ (∃ x, (px_wt (px_SN bb nb) C M tl).1 [] x ∧ (px_wt (px_SN bb nb) C M tr).1 [] x)) ∧ (t.1 66 40 ≠ 0 → ¬ (s.1 66 47 ≤ 3 ∧ (∃ x, (px_wt (px_SN bb nb) C M tl).1 [] x ∧ (px_wt (px_SN bb nb) C M tr).1 [] x)))) → (t.1 66 40 = 0 → (vk_sd (px_SN bb nb) C M tl t (t.2.1 98 (s.1 66 47).toNat) ∧ vk_sd (px_SN bb nb) C M tr t (t.2.1 99 (s.1 66 47).toNat)) ∧ ∀ i : Nat, (i : Int) < s.1 66 47 → t.2.1 98 i = s.2.1 98 i ∧ t.2.1 99 i = s.2.1 99 i) → K z t) → sx_C sL sx d 174 [.inr (.inl 66), .inl r] s K := by
  intro tl tr r lo mid hi s K hI hr hL hR hwl hwr hE hz hlo h8 hCK hES h40 h34 h9 hRB hK
  obtain ⟨d, rfl⟩ : ∃ e, d = e + 2 := ⟨d - 2, by omega⟩
  obtain ⟨nl, l1, l2, l3, l4, l5⟩ := hL
  obtain ⟨nr, m1, m2, m3, m4, m5⟩ := hR
  have lp := l5 h8
  have mp := m5 h8
  have l5 := (px_rw_is h9.1 lp).1 hwl.1
  have m5 := (px_rw_is h9.1 mp).1 hwr.1
  have l6 : ((rf_ht nl).1 : Int) ≤ 22 := by
    rw [px_ht_is lp]
    have := hwl.2.1
    omega
  have m6 : ((rf_ht nr).1 : Int) ≤ 22 := by
    rw [px_ht_is mp]
    have := hwr.2.1
    omega
  have r47 := hI.fld 66 47 (by decide) rfl
  have r58 := hI.fld 66 58 (by decide) rfl
  have sl0 : (rf_s1 nl : Int) ≤ mid - lo := by
    rcases rf_tr_len hlo.1 l2 l3 with q | q
    · exact q
    · omega
  have sr0 : (rf_s1 nr : Int) ≤ hi - mid := by
    rcases rf_tr_len (by omega) m2 m3 with q | q
    · exact q
    · omega
  have hdis : ∀ i ∈ rf_idx nl, i ∉ rf_idx nr := fun i q1 q2 => by
    have := (l3 i q1).2
    have := (m3 i q2).1
    omega
  have al : ∀ n : rf_N, ∀ i ∈ rf_al1 n, i ∈ rf_idx n := fun n i hi => by
    cases n with
    | leaf => exact hi
    | inner nj nk nu nf nx =>
      rcases List.mem_cons.mp hi with rfl | hi
      · exact List.mem_cons_self
      · exact List.mem_cons_of_mem _ (List.mem_append_left _ hi)
  have hga0 : ∀ u : sx_S, u.1 66 34 = 0 → rf_ga u (u.1 66 34).toNat = [] := fun u q => by
    rw [q]
    rfl
  -- after the first check; after the second
  refine sx_methL (wr := true) (n := 400) (n' := 400) (stop := [(32, [0, 1, 2]), (54, [0, 1, 2, 3]), (81, [0, 1])]) (fun n pc ls u => (pc = 32 ∧ ∃ x2 : Int, ls = [(0, .inr (.inl 66)), (1, .inl r), (2, .inl x2)] ∧ (cx_I u ∧ rf_FC s u (rf_al1 nl)) ∧ (s.1 66 9 ≤ u.1 66 9 ∧ u.1 66 9 ≤ s.1 66 9 + (mid - lo)) ∧ rf_CB s u (9 * rf_s1 nl) ∧ (u.1 66 40 = 0 ∨ (0 ≤ u.1 66 41 ∧ u.1 66 41 ≤ 241)) ∧ (0 ≤ x2 ∧ x2 ≤ 5999) ∧ s.1 66 47 ≤ 3 ∧ (u.1 66 40 = 0 → ∃ x, rf_is u x x2 ∧ rf_Rd u nl x [] ∧ rf_CB s u (5 * rf_s1 nl)) ∧ vk_C1 bb nb C M [] [] tl u (rf_mm u nl) x2 ∧ n = 3) ∨ (pc = 54 ∧ ∃ x2 x3 : Int, ls = [(0, .inr (.inl 66)), (1, .inl r), (2, .inl x2), (3, .inl x3)] ∧ (cx_I u ∧ rf_FC s u (rf_idx nl ++ rf_idx nr)) ∧ (s.1 66 9 ≤ u.1 66 9 ∧ u.1 66 9 ≤ s.1 66 9 + (hi - lo)) ∧ rf_CB s u (9 * (hi - lo).toNat) ∧ (u.1 66 40 = 0 ∨ (0 ≤ u.1 66 41 ∧ u.1 66 41 ≤ 241)) ∧ s.1 66 47 ≤ 3 ∧ (u.1 66 40 = 0 → ∃ x y, rf_is u x x2 ∧ rf_is u y x3 ∧ rf_Rd u nl x [] ∧ rf_Rd u nr y [] ∧ rf_CB s u (5 * rf_s1 nl + 5 * rf_s1 nr)) ∧ ((u.1 66 40 = 0 → ∃ y1 y2, (px_wt (px_SN bb nb) C M tl).1 [] y1 ∧ (px_wt (px_SN bb nb) C M tr).1 [] y2 ∧ qx_is u y1 x2 ∧ qx_is u y2 x3 ∧ (vk_lk (px_SN bb nb) C M (rf_mm u nl) tl).1 [] [] ∧ (vk_lk (px_SN bb nb) C M (rf_mm u nr) tr).1 [] []) ∧ (u.1 66 40 ≠ 0 → ¬ (∃ x, (px_wt (px_SN bb nb) C M tl).1 [] x ∧ (px_wt (px_SN bb nb) C M tr).1 [] x))) ∧ n = 2) ∨ (pc = 81 ∧ ls = [(0, .inr (.inl 66)), (1, .inl r)] ∧ (cx_I u ∧ rf_FC s u (rf_idx nl ++ rf_idx nr)) ∧ (s.1 66 9 ≤ u.1 66 9 ∧ u.1 66 9 ≤ s.1 66 9 + (hi - lo)) ∧ rf_CB s u (9 * (hi - lo).toNat) ∧ (u.1 66 40 = 0 ∨ (0 ≤ u.1 66 41 ∧ u.1 66 41 ≤ 241)) ∧ s.1 66 47 ≤ 3 ∧ (u.1 66 40 = 0 → ∃ x y, (x = qx_sh y ∧ (px_wt (px_SN bb nb) C M tl).1 [] y ∧ (px_wt (px_SN bb nb) C M tr).1 [] y ∧ (vk_lk (px_SN bb nb) C M (rf_mm u nl) tl).1 [] [] ∧ (vk_lk (px_SN bb nb) C M (rf_mm u nr) tr).1 [] []) ∧ rf_Rd u nl x [] ∧ rf_Rd u nr x [] ∧ rf_CB s u (5 * rf_s1 nl + 5 * rf_s1 nr)) ∧ ((u.1 66 40 = 0 → (∃ x, (px_wt (px_SN bb nb) C M tl).1 [] x ∧ (px_wt (px_SN bb nb) C M tr).1 [] x)) ∧ (u.1 66 40 ≠ 0 → ¬ (∃ x, (px_wt (px_SN bb nb) C M tl).1 [] x ∧ (px_wt (px_SN bb nb) C M tr).1 [] x))) ∧ n = 1)) hsL (e := eX12_equation) rfl ?_ ?_
  · refine w_eq (c_r_wrong hsL (d + 1) (by omega)) (PB := fun z t => s.1 66 47 ≤ 3 ∧ cx_I t ∧ rf_FC s t (rf_al1 nl) ∧ (s.1 66 9 ≤ t.1 66 9 ∧ t.1 66 9 ≤ s.1 66 9 + (rf_s1 nl : Int)) ∧ rf_CB s t (9 * rf_s1 nl) ∧ (t.1 66 40 = 0 ∨ (0 ≤ t.1 66 41 ∧ t.1 66 41 ≤ 241)) ∧ (0 ≤ z ∧ z ≤ 5999) ∧ (t.1 66 40 = 0 → ∃ x, rf_is t x z ∧ rf_Rd t nl x (rf_ga s (s.1 66 34).toNat) ∧ rf_CB s t (rf_cs (rf_mm t nl)).1) ∧ vk_C1 bb nb C M [] (rf_ga s (s.1 66 34).toNat) tl t (rf_mm t nl) z) hI hr ?_ ?_ ?_
    · intro q tok t' htok p1 p2 p3 p4 p5
      have e9 := p3 9 rfl
      refine hK 0 t' p1 (rf_FQ_C (rf_FC_W p2 p3)) (by omega) (rf_CB_same (t := s) ⟨by omega, by omega, by omega, by omega⟩ (p3 50 rfl) (p3 56 rfl) (p3 58 rfl) (p2 0).2) (Or.inr ?_) (fun q => absurd q p4) ⟨fun q2 => absurd q2 p4, fun _ hh => by have := hh.1; omega⟩ (fun q2 => absurd q2 p4)
      rcases p5 with ⟨z1, z2, z3⟩ | ⟨z1, z2, z3⟩
      · omega
      · omega
    · intro q u hu K' hK'
      rw [hu]
      refine c_v_check hsL bb nb mt C M hmt 22 (d + 1) (by omega) (by omega) nl tl [] _ s K' hI l1 l2 l5 (by omega) hCK h40 (by omega) (by omega) ?_ hE (px_EV_nil h34) lp hwl.2.2 (fun z t c1 c2 c3 c4 c5 c6 c7 c8 => hK' z t ⟨by omega, c1, c2, c3, c4, c5, c6, c7, c8⟩)
      obtain ⟨b1, b2, b3, b4⟩ := hRB
      exact ⟨by omega, by omega, by omega, by omega⟩
    · rintro z t ⟨c0, c1, c2, c3, c4, c5, c6, c7, c8⟩
      rw [hga0 s h34] at c8
      refine ⟨_, Or.inl ⟨rfl, z, rfl, ⟨c1, c2⟩, by omega, c4, c5, c6, c0, fun q => ?_, c8, rfl⟩⟩
      obtain ⟨x, x1, x2, x3⟩ := c7 q
      rw [hga0 s h34] at x2
      have hcs := (rf_cs_gd (n := rf_mm t nl)).1 x2.2.1
      have e1 : rf_s1 (rf_mm t nl) = rf_s1 nl := by
        cases nl with
        | leaf => rfl
        | inner nj nk nu nf nx =>
          show 1 + (rf_idx (rf_mm t nf)).length = 1 + (rf_idx nf).length
          rw [rf_mm_idx]
      rw [e1] at hcs
      refine ⟨x, x1, x2, ?_⟩
      obtain ⟨d1, d2, d3, d4⟩ := x3
      exact ⟨by omega, by omega, by omega, by omega⟩
  · rintro n pc ls u (⟨rfl, x2, rfl, ⟨g1, g2⟩, h9u, hcb, h41, hx2, h47, hap, hc1, rfl⟩ | ⟨rfl, x2, x3, rfl, ⟨g1, g2⟩, h9u, hcb, h41, h47, hap, hc2, rfl⟩ | ⟨rfl, rfl, ⟨g1, g2⟩, h9u, hcb, h41, h47, hap, hc3, rfl⟩)
    · refine w_eq_32 (PB := fun z t => u.1 66 40 = 0 ∧ cx_I t ∧ rf_FC u t (rf_al1 nr) ∧ (u.1 66 9 ≤ t.1 66 9 ∧ t.1 66 9 ≤ u.1 66 9 + (rf_s1 nr : Int)) ∧ rf_CB u t (9 * rf_s1 nr) ∧ (t.1 66 40 = 0 ∨ (0 ≤ t.1 66 41 ∧ t.1 66 41 ≤ 241)) ∧ (0 ≤ z ∧ z ≤ 5999) ∧ (t.1 66 40 = 0 → ∃ x, rf_is t x z ∧ rf_Rd t nr x (rf_ga u (u.1 66 34).toNat) ∧ rf_CB u t (rf_cs (rf_mm t nr)).1) ∧ vk_C1 bb nb C M [] (rf_ga u (u.1 66 34).toNat) tr t (rf_mm t nr) z) g1 hr ?_ ?_ ?_
      · intro q
        refine ⟨_, by omega, Or.inr (Or.inl ⟨rfl, x2, 0, rfl, ⟨g1, rf_FC_sub g2 (fun i hi => List.mem_append_left _ (al nl i hi))⟩, by omega, ?_, h41, h47, fun z => absurd z q, ⟨fun z => absurd z q, fun _ ⟨x, h1, _⟩ => (hc1 trivial).2 q x h1⟩, rfl⟩)⟩
        obtain ⟨c1, c2, c3, c4⟩ := hcb
        exact ⟨by omega, by omega, by omega, by omega⟩
      · intro q v hv K' hK'
        rw [hv, (g2.same 91 rfl).2]
        obtain ⟨x, x1, x2', x3⟩ := hap q
        have e34 := g2.2.1 34 rfl
        refine c_v_check hsL bb nb mt C M hmt 22 (d + 1) (by omega) (by omega) nr tr [] _ u K' g1 (rf_rt_F0 (rf_F0_C g2 (Int.le_refl _)) m1) m2 ((rf_rw_F0 (rf_F0_C g2 (Int.le_refl _))).1 m5) (by omega) (rf_CK_F0 (rf_F0_C g2 (Int.le_refl _)) (by omega) (by omega) hCK) q (by omega) (by omega) (rf_RB_CB hRB x3 (by omega)) (px_E_FC hE g2) (px_EV_nil (by omega)) (px_is_F0 (rf_F0_C g2 (Int.le_refl _)) mp) hwr.2.2 (fun z t c1 c2 c3 c4 c5 c6 c7 c8 => hK' z t ⟨q, c1, c2, c3, c4, c5, c6, c7, c8⟩)
      · rintro z t ⟨q, c1, c2, c3, c4, c5, c6, c7, c8⟩
        obtain ⟨x, x1, x2', x3'⟩ := hap q
        have e34 := g2.2.1 34 rfl
        refine ⟨_, by omega, Or.inr (Or.inl ⟨rfl, x2, z, rfl, ⟨c1, rf_FC_trans c2 g2 (fun i hi => List.mem_append_left _ (al nl i hi)) (fun i hi => List.mem_append_right _ (al nr i hi))⟩, by omega, rf_CB_trans c4 x3' (by omega), c5, h47, fun q2 => ?_, by rw [hga0 u (by omega)] at c8; have e9 := vk_Q2 hc1 q c8 c2.2.2.1.1; rw [← rf_mm_C (n := nl) c2 (fun i hi q3 => hdis i hi (al nr i q3))] at e9; exact e9, rfl⟩)⟩
        obtain ⟨y, y1, y2, y3⟩ := c7 q2
        rw [hga0 u (by omega)] at y2
        have hcs := (rf_cs_gd (n := rf_mm t nr)).1 y2.2.1
        have e1 : rf_s1 (rf_mm t nr) = rf_s1 nr := by
          cases nr with
          | leaf => rfl
          | inner nj nk nu nf nx =>
            show 1 + (rf_idx (rf_mm t nf)).length = 1 + (rf_idx nf).length
            rw [rf_mm_idx]
        rw [e1] at hcs
        exact ⟨x, y, rf_is_up x1 c2.2.2.1.1, y1, rf_Rd_C c2 (fun i hi q3 => hdis i hi (al nr i q3)) x2', y2, rf_CB_trans y3 x3' (by omega)⟩
    · refine w_q_eq_54 (c_r_wrong hsL (d + 1) (by omega)) (PS := fun z => (z ≠ 0 → ∃ x y, (x = qx_sh y ∧ (px_wt (px_SN bb nb) C M tl).1 [] y ∧ (px_wt (px_SN bb nb) C M tr).1 [] y ∧ (vk_lk (px_SN bb nb) C M (rf_mm u nl) tl).1 [] [] ∧ (vk_lk (px_SN bb nb) C M (rf_mm u nr) tr).1 [] []) ∧ rf_Rd u nl x [] ∧ rf_Rd u nr x [] ∧ rf_CB s u (5 * rf_s1 nl + 5 * rf_s1 nr)) ∧ (z ≠ 0 → (∃ x, (px_wt (px_SN bb nb) C M tl).1 [] x ∧ (px_wt (px_SN bb nb) C M tr).1 [] x)) ∧ (z = 0 → ¬ (∃ x, (px_wt (px_SN bb nb) C M tl).1 [] x ∧ (px_wt (px_SN bb nb) C M tr).1 [] x))) g1 hr ?_ ?_ ?_ ?_
      · intro q
        exact ⟨_, by omega, Or.inr (Or.inr ⟨rfl, rfl, ⟨g1, g2⟩, h9u, hcb, h41, h47, fun z => absurd z q, ⟨fun z => absurd z q, hc2.2⟩, rfl⟩)⟩
      · intro q K' hK'
        obtain ⟨x, y, x1, y1, x2', y2, c5⟩ := hap q
        have hx := rf_hx_gt x2'.1
        rw [rf_mm_ht (rf_rt_F0 (rf_F0_C g2 (Int.le_refl _)) l1)] at hx
        obtain ⟨y1', y2', t1, t2, s1, s2, lk1, lk2⟩ := hc2.1 q
        have h9u2 : 2 ≤ u.1 66 9 := by omega
        have sA : x = qx_sh y1' := rf_ty_inj x1 (qx_ty_sh h9u2 s1)
        have sX : y = qx_sh y2' := rf_ty_inj y1 (qx_ty_sh h9u2 s2)
        refine c_q_same hsL y1' (d + 1) (by rw [← sA]; omega) y2' x2 x3 u K' g1 (by omega) s1 s2 (fun z3 => hK' 1 (by omega) ⟨fun _ => ?_, fun _ => ⟨y1', t1, by rw [z3]; exact t2⟩, fun q => absurd q (by decide)⟩) (fun z3 => hK' 0 (by omega) ⟨fun q => absurd rfl q, fun q => absurd rfl q, fun _ ⟨w, a, b⟩ => z3 ((px_wt_fun.1 t1 a).trans (px_wt_fun.1 t2 b).symm)⟩)
        have e : x = y := by rw [sA, sX, z3]
        subst e
        exact ⟨x, y1', ⟨sA, t1, by rw [z3]; exact t2, lk1, lk2⟩, x2', y2, c5⟩
      · intro q z q1 q2
        exact ⟨_, by omega, Or.inr (Or.inr ⟨rfl, rfl, ⟨g1, g2⟩, h9u, hcb, h41, h47, fun _ => q2.1 q1, ⟨fun _ => q2.2.1 q1, fun z => absurd q z⟩, rfl⟩)⟩
      · intro p7 t' p1 p2 p3 p4 p5 p6
        have e9 := p3 9 rfl
        exact ⟨_, by omega, Or.inr (Or.inr ⟨rfl, rfl, ⟨p1, rf_FC_trans (rf_FC_W p2 p3) g2 (fun _ q => q) (fun _ q => absurd q List.not_mem_nil)⟩, by omega, rf_CB_same hcb (p3 50 rfl) (p3 56 rfl) (p3 58 rfl) (p2 0).2, Or.inr p6, h47, fun q => absurd q p4, ⟨fun q => absurd q p4, fun _ => by obtain ⟨z, z0, z1⟩ := p7; exact z1.2.2 z0⟩, rfl⟩)⟩
    · have e47 := g2.2.1 47 rfl
      have hn0 : ∀ {t : sx_S} {n : rf_N} {x : rf_T} {z : Int} {P : rf_N → Prop} {lo : Int}, cx_I t → rf_made lo x t z P → 0 ≤ z ∧ z ≤ 59999 := fun {t} {n} {x} {z} {P} {lo} hi hm => by
        obtain ⟨N, n1, _, _, _, n5, _⟩ := hm
        have h1 := rf_nd_rng n1
        have h2 := hi.fld 66 50 (by decide) rfl
        have h3 : z ≠ -1 := fun e => by
          have := rf_nd_nil n1 e
          subst this
          exact n5.elim
        omega
      by_cases q40 : u.1 66 40 = 0
      · obtain ⟨x, y, ⟨hxy, wl, wr, kl, kr⟩, xl, xr, xc⟩ := hap q40
        have hrtl := rf_rt_F0 (rf_F0_C g2 (Int.le_refl _)) l1
        have hrtr := rf_rt_F0 (rf_F0_C g2 (Int.le_refl _)) m1
        have es1 : ∀ n : rf_N, rf_s1 (rf_mm u n) = rf_s1 n := fun n => by
          cases n with
          | leaf => rfl
          | inner nj nk nu nf nx =>
            show 1 + (rf_idx (rf_mm u nf)).length = 1 + (rf_idx nf).length
            rw [rf_mm_idx]
        refine w_eq_81 (PB := fun z t => cx_I t ∧ rf_FB u t ∧ rf_CB u t (rf_s1 nl) ∧ rf_made (u.1 66 50) x t z (vq_PB (rf_mm u nl) [] (u.1 66 58) t)) (PC := fun z e1 t t1 z2 t2 => (cx_I t ∧ rf_FB u t ∧ rf_CB u t (rf_s1 nl) ∧ rf_EQ t z x ∧ vk_sd (px_SN bb nb) C M tl t z) ∧ e1 = u.1 66 47 ∧ t1 = (t.1, sx_ua t.2.1 98 e1.toNat z, t.2.2) ∧ cx_I t2 ∧ rf_FB t1 t2 ∧ rf_CB t1 t2 (rf_s1 nr) ∧ rf_made (t1.1 66 50) x t2 z2 (vq_PB (rf_mm u nr) [] (t1.1 66 58) t2)) g1 hr (fun q => absurd q40 q) ?_ ?_ ?_ ?_ ?_
        · intro _ v hv K' hK'
          rw [hv, (g2.same 90 rfl).2]
          refine c_v_build hsL 22 (d + 1) (by omega) (by omega) (rf_mm u nl) x [] _ u K' g1 (rf_mm_ym hrtl) (by rw [rf_mm_ht hrtl]; omega) xl.1 xl.2.1 xl.2.2 (by omega) (by rw [es1]; exact rf_RB_CB hRB xc (by omega)) (fun z t c1 c2 c3 c4 => hK' z t ⟨c1, c2, by rw [es1] at c3; exact c3, c4⟩)
        · rintro z t ⟨c1, c2, c3, c4⟩
          exact ⟨c1, hn0 (n := .leaf) c1 c4, c2.2.1 47 rfl, by omega⟩
        · rintro z t ⟨c1, c2, c3, c4⟩ e1 v he1 hv K' hK'
          have hz0 := hn0 (n := .leaf) c1 c4
          have hEQ : rf_EQ t z x := by
            obtain ⟨N, n1, n2, n3, n4, n5, ⟨⟨n6, n7⟩, n8⟩, n9⟩ := c4
            rw [rf_mm_ht hrtl] at n8
            exact ⟨N, n1, n5, n7, by omega⟩
          have hSD : vk_sd (px_SN bb nb) C M tl t z := by
            obtain ⟨N, n1, n2, n3, n4, n5, _, n9⟩ := c4
            exact vk_sd_mk hE g2.2.2.1 (by omega) c2.2.2.1 (c2.same 84 rfl).2 wl (by rw [← hxy]; exact xl.1) kl n1 n9
          have a98 : ∀ q, q ≠ 98 → sx_ua t.2.1 98 e1.toNat z q = t.2.1 q := fun q hq => sx_ua_ne hq
          rw [hv, (c2.same 91 rfl).2, (g2.same 91 rfl).2]
          have e9 := c2.2.1 9 rfl
          have hxu : rf_xu t (t.1, sx_ua t.2.1 98 e1.toNat z, t.2.2) := (rf_FQ_98 (Or.inl rfl)).2.2.1
          refine c_v_build hsL 22 (d + 1) (by omega) (by omega) (rf_mm u nr) x [] _ (t.1, sx_ua t.2.1 98 e1.toNat z, t.2.2) K' (cx_I_ua rfl rfl (F := t.1) (A := t.2.1) (B := t.2.2) c1 (by omega) (by omega)) (rf_ym_arr (s := t) rfl (fun p hp => a98 p (by omega)) (rf_ym_up c2 (rf_mm_ym hrtr))) (by rw [rf_mm_ht hrtr]; omega) ((rf_Rt_up (rf_xu_trans hxu c2.2.2.1) (fun i _ => by dsimp only; rw [a98 84 (by decide), (c2.same 84 rfl).2])).1 _ xr.1) xr.2.1 xr.2.2 (by dsimp only; omega) ?_ (fun z2 t2 d1 d2 d3 d4 => hK' z2 t2 ⟨⟨c1, c2, c3, hEQ, hSD⟩, he1, rfl, d1, d2, by rw [es1] at d3; exact d3, d4⟩)
          rw [es1]
          have := rf_RB_CB (b := rf_s1 nr) hRB (rf_CB_trans c3 xc (Nat.le_refl _)) (by omega)
          exact this
        · rintro z e1 t t1 z2 t2 ⟨⟨c1, c2, c3, c4, cS⟩, he1, ht1, d1, d2, d3, d4⟩
          subst ht1
          refine ⟨d1, hn0 (n := .leaf) d1 d4, ?_⟩
          rw [d2.2.1 47 rfl]
          exact c2.2.1 47 rfl
        · rintro z e1 t z2 t2 ⟨i1, i2, i3, i4⟩ ⟨⟨c1, c2, c3, c4, cS⟩, he1, ht1, d1, d2, d3, d4⟩ e2 w he2 hw
          have hz2 := hn0 (n := .leaf) d1 d4
          have f0 : rf_FQ s u := rf_FQ_C g2
          have f1 : rf_FQ u t := rf_FQ_C (rf_FC_FB c2)
          have f2 : rf_FQ t (t.1, sx_ua t.2.1 98 e1.toNat z, t.2.2) := rf_FQ_98 (Or.inl rfl)
          have f3 : rf_FQ (t.1, sx_ua t.2.1 98 e1.toNat z, t.2.2) t2 := rf_FQ_C (rf_FC_FB d2)
          have f4 : rf_FQ t2 (t2.1, sx_ua t2.2.1 99 e2.toNat z2, t2.2.2) := rf_FQ_98 (Or.inr rfl)
          have f5 : rf_FQ (t2.1, sx_ua t2.2.1 99 e2.toNat z2, t2.2.2) (sx_uf t2.1 66 47 w, sx_ua t2.2.1 99 e2.toNat z2, t2.2.2) := rf_FQ_47 (s := (t2.1, sx_ua t2.2.1 99 e2.toNat z2, t2.2.2))
          have f35 := rf_FQ_trans f5 (rf_FQ_trans f4 f3)
          have f25 := rf_FQ_trans f35 f2
          have f15 := rf_FQ_trans f25 f1
          have f45 := rf_FQ_trans f5 f4
          have e9 := c2.2.1 9 rfl
          have e92 := d2.2.1 9 rfl
          have e : ∀ q, q ≠ 47 → sx_uf t2.1 66 47 w 66 q = t2.1 66 q := fun q hq => by
            rw [sx_uf_if]
            exact if_neg (fun c => hq c.2)
          have e47w : sx_uf t2.1 66 47 w 66 47 = w := by
            rw [sx_uf_if]
            exact if_pos ⟨rfl, rfl⟩
          have hcbt : rf_CB s t2 (9 * (hi - lo).toNat) := rf_CB_trans (t := (t.1, sx_ua t.2.1 98 e1.toNat z, t.2.2)) d3 (show rf_CB s t (5 * rf_s1 nl + 5 * rf_s1 nr + rf_s1 nl) from rf_CB_trans c3 xc (Nat.le_refl _)) (by omega)
          have e40u : t2.1 66 40 = u.1 66 40 := (d2.2.1 40 rfl).trans (c2.2.1 40 rfl)
          have hEQ2 : rf_EQ t2 z2 x := by
            obtain ⟨N, n1, n2, n3, n4, n5, ⟨⟨n6, n7⟩, n8⟩, n9⟩ := d4
            rw [rf_mm_ht hrtr] at n8
            exact ⟨N, n1, n5, n7, by omega⟩
          have hSD2 : vk_sd (px_SN bb nb) C M tr t2 z2 := by
            obtain ⟨N, n1, n2, n3, n4, n5, _, n9⟩ := d4
            have hxu : rf_xu t (t.1, sx_ua t.2.1 98 e1.toNat z, t.2.2) := f2.2.2.1
            have h9t : 2 ≤ t.1 66 9 := by omega
            exact vk_sd_mk (s := (t.1, sx_ua t.2.1 98 e1.toNat z, t.2.2)) hE (rf_xu_trans hxu (rf_xu_trans c2.2.2.1 g2.2.2.1)) h9t d2.2.2.1 (d2.same 84 rfl).2 wr (by rw [← hxy]; exact (rf_Rt_up (rf_xu_trans hxu c2.2.2.1) (fun i _ => by dsimp only; rw [sx_ua_ne (by decide), (c2.same 84 rfl).2])).1 _ xr.1) kr n1 n9
          have b98 : (sx_ua t2.2.1 99 e2.toNat z2) 98 = fun j => if j = e1.toNat then z else t.2.1 98 j := by
            rw [sx_ua_ne (by decide), (d2.same 98 rfl).2]
            dsimp only
            rw [sx_ua_same]
          have b99 : (sx_ua t2.2.1 99 e2.toNat z2) 99 = fun j => if j = e2.toNat then z2 else t2.2.1 99 j := sx_ua_same _ _ _ _
          have g98 : ∀ i : Nat, t.2.1 98 i = s.2.1 98 i := fun i => by rw [(c2.same 98 rfl).2, (g2.same 98 rfl).2]
          have g99 : ∀ i : Nat, t2.2.1 99 i = s.2.1 99 i := fun i => by
            rw [(d2.same 99 rfl).2]
            dsimp only
            rw [sx_ua_ne (by decide), (c2.same 99 rfl).2, (g2.same 99 rfl).2]
          refine hK 0 _ (cx_I_uf rfl rfl (cx_I_ua rfl rfl (F := t2.1) (A := t2.2.1) (B := t2.2.2) d1 (by omega) (by omega)) (by omega) (by omega)) (rf_FQ_trans f15 f0) ?_ (rf_CB_same hcbt (e 50 (by decide)) (e 56 (by decide)) (e 58 (by decide)) rfl) (Or.inl ?_) (fun _ => ?_) ⟨fun _ => ⟨by dsimp only; rw [e47w]; omega, by omega, hc3.1 q40⟩, fun z => absurd (by dsimp only; rw [e 40 (by decide), e40u]; exact q40) z⟩ (fun _ => ?_)
          · dsimp only at e92 ⊢
            rw [e 9 (by decide)]
            omega
          · dsimp only
            rw [e 40 (by decide), e40u]
            exact q40
          · intro i hi
            dsimp only at hi
            rw [e47w] at hi
            have a98 : (sx_ua t2.2.1 99 e2.toNat z2) 98 = fun j => if j = e1.toNat then z else t.2.1 98 j := by
              rw [sx_ua_ne (by decide), (d2.same 98 rfl).2]
              dsimp only
              rw [sx_ua_same]
            have a99 : (sx_ua t2.2.1 99 e2.toNat z2) 99 = fun j => if j = e2.toNat then z2 else t2.2.1 99 j := sx_ua_same _ _ _ _
            dsimp only
            rw [a98, a99]
            dsimp only
            by_cases hi2 : (i : Int) = s.1 66 47
            · rw [if_pos (by omega), if_pos (by omega)]
              exact ⟨x, rf_EQ_up f25.2.2.2.1 f25.2.2.1 c4, rf_EQ_up f45.2.2.2.1 f45.2.2.1 hEQ2⟩
            · rw [if_neg (by omega), if_neg (by omega)]
              obtain ⟨y, y1, y2⟩ := hES i (by omega)
              have f05 := rf_FQ_trans f15 f0
              have h98 : t.2.1 98 i = s.2.1 98 i := by rw [(c2.same 98 rfl).2, (g2.same 98 rfl).2]
              have h99 : t2.2.1 99 i = s.2.1 99 i := by
                rw [(d2.same 99 rfl).2]
                dsimp only
                rw [sx_ua_ne (by decide), (c2.same 99 rfl).2, (g2.same 99 rfl).2]
              rw [h98, h99]
              exact ⟨y, rf_EQ_up f05.2.2.2.1 f05.2.2.1 y1, rf_EQ_up f05.2.2.2.1 f05.2.2.1 y2⟩
          · dsimp only
            rw [b98, b99]
            dsimp only
            rw [if_pos (by omega), if_pos (by omega)]
            refine ⟨⟨vk_sd_up (vk_U_Q f25.2.2.2.1 f25.2.2.1) cS, vk_sd_up (vk_U_Q f45.2.2.2.1 f45.2.2.1) hSD2⟩, fun i hi => ?_⟩
            rw [if_neg (by omega), if_neg (by omega)]
            exact ⟨g98 i, g99 i⟩
      · refine w_eq_81 (PB := fun _ _ => False) (PC := fun _ _ _ _ _ _ => False) g1 hr (fun _ => hK 0 u g1 (rf_FQ_C g2) h9u hcb h41 (fun q => absurd q q40) ⟨fun q => absurd q q40, fun _ hh => hc3.2 q40 hh.2⟩ (fun q => absurd q q40)) (fun q => absurd q q40) (fun _ _ q => q.elim) (fun _ _ q => q.elim) (fun _ _ _ _ _ _ q => q.elim) (fun _ _ _ _ _ q => q.elim)
