/-! ===== the reference: distinct, exactly ===== -/
theorem rf_lf2_fun : ∀ {n : rf_N}, (∀ {us : List Int} {v v' : Int}, (rf_lf2 n).1 us v → (rf_lf2 n).1 us v' → v = v') ∧ (∀ {us us' : List Int}, (rf_lf2 n).2 us → (rf_lf2 n).2 us' → us = us')
  | .leaf => ⟨fun h _ => h.elim, fun h g => h.trans g.symm⟩
  | .inner j k u f x => by
    have hf := rf_lf2_fun (n := f)
    have hx := rf_lf2_fun (n := x)
    have h1 : ∀ {us : List Int} {v v' : Int}, (rf_lf2 (.inner j k u f x)).1 us v → (rf_lf2 (.inner j k u f x)).1 us v' → v = v' := by
      intro us v v' h g
      rcases h with ⟨h1, h2⟩ | ⟨h1, h2, _⟩ <;> rcases g with ⟨g1, g2⟩ | ⟨g1, g2, _⟩
      · exact hf.1 h2 g2
      · omega
      · omega
      · exact h2.symm.trans g2
    refine ⟨h1, ?_⟩
    intro us us' h g
    obtain ⟨w, r, a1, a2, a3⟩ := rf_lf2_c.mp h
    obtain ⟨w', r', b1, b2, b3⟩ := rf_lf2_c.mp g
    rw [a1, b1, h1 a2 b2, hx.2 a3 b3]
/-- a variable found has a number -/
theorem rf_lf_pos {s : sx_S} {P : Nat → rf_T → Prop} : ∀ {n : rf_N} {A : rf_T} {us : List Int} {v : Int}, (rf_gt (rf_RH s) P n).1 A → (rf_lf2 n).1 us v → 0 ≤ v
  | .leaf, _, _, _, h, _ => h.elim
  | .inner j k u f x, A, us, v, h, g => by
    rcases h with ⟨h1, A', B', _, _, h4⟩ | ⟨h1, w, h2, _⟩ <;> rcases g with ⟨g1, g2⟩ | ⟨g1, g2, _⟩
    · exact rf_lf_pos h4 g2
    · omega
    · exact absurd g1 h1
    · rcases h2.2 with ⟨q, _⟩ | ⟨q, _⟩ | ⟨q, q2⟩ | ⟨q, _⟩
      · exact absurd q h1
      · omega
      · rw [← g2]
        exact q2.1.1
      · omega
theorem rf_lf2_split {b : rf_N} : ∀ {a : rf_N} {vs : List Int}, (rf_lf2 (rf_snoc a b)).2 vs → ∃ va vb, vs = va ++ vb ∧ (rf_lf2 a).2 va ∧ (rf_lf2 b).2 vb
  | .leaf, vs, h => ⟨[], vs, rfl, rfl, h⟩
  | .inner j k u f x, vs, h => by
    obtain ⟨w, r, a1, a2, a3⟩ := rf_lf2_c.mp h
    obtain ⟨va, vb, b1, b2, b3⟩ := rf_lf2_split a3
    exact ⟨w :: va, vb, by rw [a1, b1]; rfl, rf_lf2_c.mpr ⟨w, va, rfl, a2, b2⟩, b3⟩

theorem w_q_distinct_47 {CALL : sx_Ca} {sL : Nat} {sx : Nat → Int32} {Q : Nat → sx_L → sx_S → Prop} {R : Int → sx_S → Prop} (h_wrong : ∀ (a0 a1 : Int) (s : sx_S) (K : Int → sx_S → Prop), cx_I s → (1 ≤ a0 ∧ a0 ≤ 6) → (0 ≤ a1 ∧ a1 ≤ 241) → (∀ (z : Int) (t : sx_S), cx_I t → cx_F [(66, 66)] s t → (rf_f [40, 41] s t) → (t.1 66 40 ≠ 0) → ((s.1 66 40 ≠ 0 ∧ t.1 66 40 = s.1 66 40 ∧ t.1 66 41 = s.1 66 41) ∨ (s.1 66 40 = 0 ∧ t.1 66 40 = a0 ∧ t.1 66 41 = a1)) → K z t) → CALL 165 [.inr (.inl 66), .inl a0, .inl a1] s K) {s : sx_S} {r x2 x3 x4 : Int} {PB : Int → sx_S → Prop} {PV : Int → sx_S → Int → Prop} (hI : cx_I s) (q : 0 ≤ r ∧ r ≤ 599) (q2 : 0 ≤ x2 ∧ x2 ≤ 599) (q3 : -2147483648 ≤ x3 ∧ x3 ≤ 2147483647) (q4 : 0 ≤ x4 ∧ x4 ≤ 599) (hE : x4 = x2 → ∀ u : Int, u = s.2.1 81 x2.toNat → Q 7 [(0, .inr (.inl 66)), (1, .inl r), (2, .inl u)] s) (hB : x4 ≠ x2 → ∀ K : Int → sx_S → Prop, (∀ z t, PB z t → K z t) → CALL 182 [.inr (.inl 66), .inl x4] s K) (hV : ∀ z t, PB z t → ∀ K : Int → sx_S → Prop, (∀ w, PV z t w → K w t) → CALL 183 [.inr (.inl 66), .inl z] t K) (hIB : ∀ z t, PB z t → cx_I t) (hVr : ∀ z t w, PV z t w → -2147483648 ≤ w ∧ w ≤ 2147483647) (hW : ∀ z t w, PB z t → PV z t w → w = x3 → ∀ t', cx_I t' → cx_F [(66, 66)] t t' → rf_f [40, 41] t t' → t'.1 66 40 ≠ 0 → ((t.1 66 40 ≠ 0 ∧ t'.1 66 40 = t.1 66 40 ∧ t'.1 66 41 = t.1 66 41) ∨ (t.1 66 40 = 0 ∧ t'.1 66 40 = 5 ∧ t'.1 66 41 = t.2.1 75 r.toNat)) → ∀ u : Int, u = t'.2.1 81 x4.toNat → Q 47 [(0, .inr (.inl 66)), (1, .inl r), (2, .inl x2), (3, .inl x3), (4, .inl u)] t') (hQ : ∀ z t w, PB z t → PV z t w → w ≠ x3 → ∀ u : Int, u = t.2.1 81 x4.toNat → Q 47 [(0, .inr (.inl 66)), (1, .inl r), (2, .inl x2), (3, .inl x3), (4, .inl u)] t) : sx_wp true sL sx eX12_distinct CALL [(7, [0, 1, 2]), (47, [0, 1, 2, 3, 4])] Q R 400 47 [(0, .inr (.inl 66)), (1, .inl r), (2, .inl x2), (3, .inl x3), (4, .inl x4)] [] s := by
  repeat' (first | (with_reducible intro _) | (refine And.intro ?_ ?_) | (refine hE ?_ _ ?_) | (refine hQ _ _ _ (by assumption) (by assumption) ?_ _ ?_) | (refine hB ?_ _ ?_) | (refine hV _ _ (by assumption) _ ?_) | (refine h_wrong _ _ _ _ ?_ ?_ ?_ ?_) | (refine hW _ _ _ (by assumption) (by assumption) (by omega) _ (by assumption) (by assumption) (by assumption) (by assumption) ?_ _ ?_))
  all_goals (try dsimp only)
  all_goals (first | trivial | assumption | omega | (exact hIB _ _ (by assumption)) | (exact (hVr _ _ _ (by assumption)).1) | (exact (hVr _ _ _ (by assumption)).2) | (dsimp only at *; omega) | skip)

theorem c_q_distinct {sL : Nat} {sx : Nat → Int32} (hsL : sL ≤ 3072) (Z d : Nat) (hZ : Z ≤ 1000) (hd : 10 * Z + 40 ≤ d) : ∀ (fm : rf_N) (U x : rf_T) (Γ : List Int) (r : Int) (s : sx_S) (K : Int → sx_S → Prop), cx_I s → (0 ≤ r ∧ r ≤ 599) → rf_ym s fm (s.2.1 80 r.toNat) → (rf_idx fm).Nodup → (rf_gt (rf_RH s) (rf_RP s) fm).2 U x → rf_at U ≤ 5 → (rf_gd fm).2 → (rf_sc rf_G1 fm).2 Γ → (rf_ht fm).2 ≤ Z → (2 ≤ s.1 66 9 ∧ s.1 66 9 ≤ 6000) → rf_RB s (4 * (rf_idx fm).length) → s.1 66 40 = 0 → (∀ (z : Int) (t : sx_S), cx_I t → rf_FC s t [] → rf_f [40, 41, 50, 56, 58] s t → rf_CB s t (4 * (rf_idx fm).length) → (t.1 66 40 = 0 → ∃ vs, (rf_lf2 fm).2 vs ∧ vs.Nodup) → (t.1 66 40 = 0 ∨ (0 ≤ t.1 66 41 ∧ t.1 66 41 ≤ 241)) → (t.1 66 40 ≠ 0 → ¬ (∃ vs, (rf_lf2 fm).2 vs ∧ vs.Nodup)) → K z t) → sx_C sL sx d 172 [.inr (.inl 66), .inl r] s K := by
  intro fm U x Γ r s K hI hr hy hnd hty hU hgd hsc hht h9 hRB h40 hK
  obtain ⟨d, rfl⟩ : ∃ e, d = e + 2 := ⟨d - 2, by omega⟩
  have hro : rf_ro5 s Γ Z x fm := ⟨⟨U, hty⟩, hgd, hsc, hht⟩
  have hxp := rf_at_pos x
  have hlen := rf_gt_len hty
  have hrs : ∀ {u : sx_S} {g : rf_N} {i : Int}, cx_I u → rf_ym u g i → -1 ≤ i ∧ i ≤ 599 := fun {u} {g} {i} hu hg => by
    have h1 := rf_nd_rng hg
    have h2 := hu.fld 66 12 (by decide) rfl
    omega
  refine sx_methL (wr := true) (n := 400) (n' := 400) (stop := [(7, [0, 1, 2]), (47, [0, 1, 2, 3, 4])]) (fun n pc ls u => (pc = 7 ∧ ∃ (x2 : Int) (g D : rf_N) (vd : List Int), ls = [(0, .inr (.inl 66)), (1, .inl r), (2, .inl x2)] ∧ (cx_I u ∧ rf_FC s u [] ∧ rf_f [40, 41, 50, 56, 58] s u) ∧ fm = rf_snoc D g ∧ rf_ym u g x2 ∧ (rf_lf2 D).2 vd ∧ (u.1 66 40 = 0 → vd.Nodup) ∧ rf_CB s u (rf_len D * (rf_idx fm).length) ∧ (u.1 66 40 = 0 ∨ (0 ≤ u.1 66 41 ∧ u.1 66 41 ≤ 241)) ∧ (u.1 66 40 ≠ 0 → ¬ (∃ vs, (rf_lf2 fm).2 vs ∧ vs.Nodup)) ∧ n = 100 * rf_len g + 50) ∨ (pc = 47 ∧ ∃ (x2 x3 x4 : Int) (g D dq Dp : rf_N) (vd vp vr : List Int) (c : Nat), ls = [(0, .inr (.inl 66)), (1, .inl r), (2, .inl x2), (3, .inl x3), (4, .inl x4)] ∧ (cx_I u ∧ rf_FC s u [] ∧ rf_f [40, 41, 50, 56, 58] s u) ∧ (fm = rf_snoc D g ∧ D = rf_snoc Dp dq ∧ g ≠ .leaf) ∧ rf_ym u g x2 ∧ rf_ym u (rf_snoc dq g) x4 ∧ (rf_lf2 D).2 vd ∧ (u.1 66 40 = 0 → vd.Nodup) ∧ rf_lf g x3 ∧ (-2147483648 ≤ x3 ∧ x3 ≤ 2147483647) ∧ (vd = vp ++ vr ∧ (rf_lf2 dq).2 vr ∧ (u.1 66 40 = 0 → x3 ∉ vp)) ∧ rf_CB s u c ∧ c + (rf_idx (rf_snoc dq g)).length ≤ rf_len D * (rf_idx fm).length + rf_s1 g + (rf_idx fm).length ∧ (u.1 66 40 = 0 ∨ (0 ≤ u.1 66 41 ∧ u.1 66 41 ≤ 241)) ∧ (u.1 66 40 ≠ 0 → ¬ (∃ vs, (rf_lf2 fm).2 vs ∧ vs.Nodup)) ∧ n = 100 * rf_len g + rf_len dq)) hsL (e := eX12_distinct) rfl ?_ ?_
  · refine w_distinct hI hr (fun u hu => ⟨_, Or.inl ⟨rfl, u, fm, .leaf, [], rfl, ⟨hI, rf_FC_refl _ _, rf_f_refl _ _⟩, rfl, by rw [hu]; exact hy, rfl, fun _ => List.nodup_nil, ⟨by omega, by omega, by omega, by omega⟩, Or.inl h40, fun q => absurd h40 q, rfl⟩⟩)
  · have s40 : ∀ {u t : sx_S}, rf_f [40, 41, 50, 56, 58] s u → rf_FB u t → rf_f [40, 41, 50, 56, 58] s t := fun h1 h2 => rf_f_step h2.2.1 rfl h1
    rintro n pc ls u (⟨rfl, x2, g, D, vd, rfl, ⟨g1, g2, g3⟩, hfm, hyg, hvd, hnv, hcb, h41, hnp, rfl⟩ | ⟨rfl, x2, x3, x4, g, D, dq, Dp, vd, vp, vr, c, rfl, ⟨g1, g2, g3⟩, ⟨hfm, hD, hgn⟩, hyg, hyq, hvd, hnv, hlf, h3, ⟨hv1, hv2, hv3⟩, hcb, hc, h41, hnp, rfl⟩)
    · have e9 := g3 9 rfl
      have hl2 := rf_len_snoc g D
      rw [← hfm] at hl2
      have hr2 := hrs g1 hyg
      have hmul : (rf_len D) * (rf_idx fm).length ≤ 4 * (rf_idx fm).length := Nat.mul_le_mul_right _ (by omega)
      cases g with
      | leaf =>
        have e2 : x2 = -1 := hyg
        refine w_distinct_7 (PB := fun _ _ => False) (PV := fun _ _ _ => False) (c_r_wrong hsL (d + 1) (by omega)) hr hr2 (fun _ => ?_) (fun q => absurd e2 q) (fun _ _ q => q.elim) (fun _ _ q => q.elim) (fun _ _ _ q => q.elim) (fun _ _ q => q.elim) (fun _ _ _ q => q.elim)
        refine hK 0 u g1 g2 g3 ⟨?_, ?_, ?_, ?_⟩ (fun q => ⟨vd, by rw [hfm, rf_snoc_leaf]; exact hvd, hnv q⟩) h41 hnp
        · have := hcb.1
          omega
        · have := hcb.2.1
          omega
        · have := hcb.2.2.1
          omega
        · have := hcb.2.2.2
          omega
      | inner gj gk gu gf gx =>
        have elg : rf_len (.inner gj gk gu gf gx) = rf_len gx + 1 := rfl
        have hrg := rf_ro5_part (a := D) (b := .inner gj gk gu gf gx) (by rw [← hfm]; exact hro)
        have hsl := rf_idx_slen (.inner gj gk gu gf gx) D
        rw [← hfm] at hsl
        have hs1 := rf_s1_le (f := .inner gj gk gu gf gx)
        have hm2 : (rf_len D + 1) * (rf_idx fm).length ≤ 4 * (rf_idx fm).length := Nat.mul_le_mul_right _ (by omega)
        rw [Nat.add_mul, Nat.one_mul] at hm2
        obtain ⟨A, hB, hV⟩ := rf_bv hsL (d := d + 1) hZ (by omega) g1 g2 hrg hyg (by omega) (rf_RB_CB hRB hcb (by omega))
        have hy2 := hyg.1
        refine w_distinct_7 (c_r_wrong hsL (d + 1) (by omega)) hr hr2 (fun q => ?_) (fun _ => hB) hV (fun z t q => q.1) (fun z t w q => q.1) ?_ ?_
        · exfalso
          omega
        · rintro z t ⟨q1, q2, q3, _⟩ ⟨_, _, zz3⟩ t' p1 p2 p3 p4 p5
          have zzn : ¬ (∃ vs, (rf_lf2 fm).2 vs ∧ vs.Nodup) := by
            rintro ⟨vs, v1, v2⟩
            rw [hfm] at v1
            obtain ⟨va, vb, v3, v4, v5⟩ := rf_lf2_split v1
            obtain ⟨zw, vb2, v6, v7, v8⟩ := rf_lf2_c.mp v5
            obtain ⟨⟨zw2, A2, B2, v9, v10, v11⟩, _⟩ := hrg
            have v12 := rf_lf_pos (n := .inner gj gk gu gf gx) (s := s) (P := rf_RP s) (A := A2) v10 v7
            have v13 := zz3 _ v7
            omega
          have h75 := q1.arr 75 (by decide) rfl r.toNat
          refine hK 0 t' p1 (rf_FC_trans (rf_FC_W p2 p3) (rf_FC_trans (rf_FC_FB q2) g2 (fun _ z => z) (fun _ z => z)) (fun _ z => z) (fun _ z => z)) (rf_f_step p3 rfl (s40 g3 q2)) (rf_CB_same (rf_CB_trans q3 hcb (by omega)) (p3 50 rfl) (p3 56 rfl) (p3 58 rfl) (p2 0).2) (fun q => absurd q p4) (Or.inr ?_) (fun _ => zzn)
          rcases p5 with ⟨z1, z2, z3⟩ | ⟨z1, z2, z3⟩
          · have := q2.2.1 40 rfl
            have := q2.2.1 41 rfl
            omega
          · omega
        · rintro z t w ⟨q1, q2, q3, _⟩ ⟨w1, w2, w3⟩ hw1 v hv
          have hFs := rf_FC_trans (T := []) (rf_FC_FB q2) g2 (fun _ z => z) (fun _ z => z)
          have e40 := q2.2.1 40 rfl
          have e41 := q2.2.1 41 rfl
          refine ⟨_, ?_, Or.inr ⟨rfl, x2, w, v, .inner gj gk gu gf gx, D, D, .leaf, vd, [], vd, rf_len D * (rf_idx fm).length + rf_s1 (.inner gj gk gu gf gx), rfl, ⟨q1, hFs, s40 g3 q2⟩, ⟨hfm, rfl, fun q => by cases q⟩, rf_ym_up q2 hyg, ?_, hvd, fun q => hnv (by omega), w2 hw1, w1, ⟨rfl, hvd, fun _ => List.not_mem_nil⟩, rf_CB_trans q3 hcb (Nat.le_refl _), ?_, by omega, fun q => hnp (by omega), rfl⟩⟩
          · omega
          · rw [← hfm, hv, (hFs.same 80 rfl).2]
            exact rf_ym_C hFs (fun _ _ => List.not_mem_nil) hy
          · rw [← hfm]
            omega
    · have e9 := g3 9 rfl
      have hl2 := rf_len_snoc g D
      rw [← hfm] at hl2
      have hr2 := hrs g1 hyg
      have hr4 := hrs g1 hyq
      cases g with
      | leaf => exact absurd rfl hgn
      | inner gj gk gu gf gx =>
      have elg : rf_len (.inner gj gk gu gf gx) = rf_len gx + 1 := rfl
      have hs1 := rf_s1_le (f := .inner gj gk gu gf gx)
      have hm2 : (rf_len D + 1) * (rf_idx fm).length ≤ 4 * (rf_idx fm).length := Nat.mul_le_mul_right _ (by omega)
      rw [Nat.add_mul, Nat.one_mul] at hm2
      have hy2 := hyg
      obtain ⟨⟨y0, y1⟩, ⟨y2, y3⟩, y4, y5⟩ := hy2
      have hfq : fm = rf_snoc Dp (rf_snoc dq (.inner gj gk gu gf gx)) := by
        rw [hfm, hD, rf_snoc_assoc]
      cases dq with
      | leaf =>
        have e42 : x4 = x2 := by
          have h1 : x4 = (gj : Int) := hyq.1.1
          omega
        refine w_q_distinct_47 (PB := fun _ _ => False) (PV := fun _ _ _ => False) (c_r_wrong hsL (d + 1) (by omega)) g1 hr ⟨by omega, by omega⟩ h3 ⟨by omega, by omega⟩ (fun _ v hv => ?_) (fun q => absurd e42 q) (fun _ _ q => q.elim) (fun _ _ q => q.elim) (fun _ _ _ q => q.elim) (fun _ _ _ q => q.elim) (fun _ _ _ q => q.elim)
        have er : vr = [] := hv2
        subst er
        rw [List.append_nil] at hv1
        refine ⟨_, ?_, Or.inl ⟨rfl, v, gx, rf_snoc D (.inner gj gk gu gf .leaf), vd ++ [x3], rfl, ⟨g1, g2, g3⟩, ?_, ?_, rf_lf2_snoc1.mpr ⟨vd, x3, rfl, hvd, hlf⟩, fun q => ?_, ?_, h41, hnp, rfl⟩⟩
        · omega
        · rw [hfm, rf_snoc_assoc]
          rfl
        · rw [hv, show x2.toNat = gj by omega]
          exact y5
        · refine List.nodup_append.mpr ⟨hnv q, by simp, fun a ha b hb z => ?_⟩
          have eb : b = x3 := by simpa using hb
          rw [hv1] at ha
          exact hv3 q (by rw [← eb, ← z]; exact ha)
        · rw [rf_len_snoc]
          have e1 : rf_len (.inner gj gk gu gf .leaf) = 1 := rfl
          have hcc : c ≤ (rf_len D + 1) * (rf_idx fm).length := by
            rw [Nat.add_mul, Nat.one_mul]
            have h1 : (rf_idx (rf_snoc .leaf (.inner gj gk gu gf gx))).length = (rf_idx (.inner gj gk gu gf gx)).length := rfl
            omega
          rw [e1]
          obtain ⟨c1, c2, c3, c4⟩ := hcb
          exact ⟨by omega, by omega, by omega, by omega⟩
      | inner qj qk qu qf qx =>
        have hyq2 := hyq
        obtain ⟨⟨z0, z1⟩, ⟨z2, z3⟩, z4, z5⟩ := hyq2
        have hndq := rf_nodup_part (a := Dp) (b := rf_snoc (.inner qj qk qu qf qx) (.inner gj gk gu gf gx)) (by rw [← hfq]; exact hnd)
        have hne : x4 ≠ x2 := fun q => by
          have h1 : qj ∉ rf_idx qf ++ rf_idx (rf_snoc qx (.inner gj gk gu gf gx)) := (List.nodup_cons.mp hndq).1
          refine h1 (List.mem_append_right _ ((rf_idx_snoc _ _ _).mpr (Or.inr ?_)))
          have : qj = gj := by omega
          rw [this]
          exact List.mem_cons_self
        obtain ⟨w0, vr2, er, lf0, hv2b⟩ := hv2
        have hrq := rf_ro5_part (a := Dp) (b := rf_snoc (.inner qj qk qu qf qx) (.inner gj gk gu gf gx)) (by rw [← hfq]; exact hro)
        have hsq : (rf_idx (rf_snoc (.inner qj qk qu qf qx) (.inner gj gk gu gf gx))).length = rf_s1 (.inner qj qk qu qf (rf_snoc qx (.inner gj gk gu gf gx))) + (rf_idx (rf_snoc qx (.inner gj gk gu gf gx))).length := rf_s1_idx
        have hslq := rf_idx_slen (.inner gj gk gu gf gx) qx
        obtain ⟨A, hB, hV⟩ := rf_bv hsL (d := d + 1) hZ (by omega) g1 g2 hrq hyq (by omega) (rf_RB_CB (b := rf_s1 (.inner qj qk qu qf (rf_snoc qx (.inner gj gk gu gf gx)))) hRB hcb (by omega))
        have elq : rf_len (.inner qj qk qu qf qx) = rf_len qx + 1 := rfl
        have goal : ∀ (t : sx_S) (v : Int), cx_I t → rf_FC s t [] → rf_f [40, 41, 50, 56, 58] s t → rf_CB s t (c + rf_s1 (.inner qj qk qu qf (rf_snoc qx (.inner gj gk gu gf gx)))) → (t.1 66 40 = 0 → u.1 66 40 = 0 ∧ x3 ≠ w0) → (t.1 66 40 = 0 ∨ (0 ≤ t.1 66 41 ∧ t.1 66 41 ≤ 241)) → (t.1 66 40 ≠ 0 → ¬ (∃ vs, (rf_lf2 fm).2 vs ∧ vs.Nodup)) → v = s.2.1 81 qj → ∃ n', n' < 100 * rf_len (.inner gj gk gu gf gx) + rf_len (.inner qj qk qu qf qx) ∧ (fun (n pc : Nat) (ls : sx_L) (u : sx_S) => (pc = 7 ∧ ∃ (x2 : Int) (g D : rf_N) (vd : List Int), ls = [(0, .inr (.inl 66)), (1, .inl r), (2, .inl x2)] ∧ (cx_I u ∧ rf_FC s u [] ∧ rf_f [40, 41, 50, 56, 58] s u) ∧ fm = rf_snoc D g ∧ rf_ym u g x2 ∧ (rf_lf2 D).2 vd ∧ (u.1 66 40 = 0 → vd.Nodup) ∧ rf_CB s u (rf_len D * (rf_idx fm).length) ∧ (u.1 66 40 = 0 ∨ (0 ≤ u.1 66 41 ∧ u.1 66 41 ≤ 241)) ∧ (u.1 66 40 ≠ 0 → ¬ (∃ vs, (rf_lf2 fm).2 vs ∧ vs.Nodup)) ∧ n = 100 * rf_len g + 50) ∨ (pc = 47 ∧ ∃ (x2 x3 x4 : Int) (g D dq Dp : rf_N) (vd vp vr : List Int) (c : Nat), ls = [(0, .inr (.inl 66)), (1, .inl r), (2, .inl x2), (3, .inl x3), (4, .inl x4)] ∧ (cx_I u ∧ rf_FC s u [] ∧ rf_f [40, 41, 50, 56, 58] s u) ∧ (fm = rf_snoc D g ∧ D = rf_snoc Dp dq ∧ g ≠ .leaf) ∧ rf_ym u g x2 ∧ rf_ym u (rf_snoc dq g) x4 ∧ (rf_lf2 D).2 vd ∧ (u.1 66 40 = 0 → vd.Nodup) ∧ rf_lf g x3 ∧ (-2147483648 ≤ x3 ∧ x3 ≤ 2147483647) ∧ (vd = vp ++ vr ∧ (rf_lf2 dq).2 vr ∧ (u.1 66 40 = 0 → x3 ∉ vp)) ∧ rf_CB s u c ∧ c + (rf_idx (rf_snoc dq g)).length ≤ rf_len D * (rf_idx fm).length + rf_s1 g + (rf_idx fm).length ∧ (u.1 66 40 = 0 ∨ (0 ≤ u.1 66 41 ∧ u.1 66 41 ≤ 241)) ∧ (u.1 66 40 ≠ 0 → ¬ (∃ vs, (rf_lf2 fm).2 vs ∧ vs.Nodup)) ∧ n = 100 * rf_len g + rf_len dq)) n' 47 [(0, .inr (.inl 66)), (1, .inl r), (2, .inl x2), (3, .inl x3), (4, .inl v)] t := fun t v i1 i2 i3 i4 i5 i6 i8 i7 => ⟨100 * rf_len (.inner gj gk gu gf gx) + rf_len qx, by omega, Or.inr ⟨rfl, x2, x3, v, .inner gj gk gu gf gx, D, qx, rf_snoc Dp (.inner qj qk qu qf .leaf), vd, vp ++ [w0], vr2, c + rf_s1 (.inner qj qk qu qf (rf_snoc qx (.inner gj gk gu gf gx))), rfl, ⟨i1, i2, i3⟩, ⟨hfm, by rw [hD, rf_snoc_assoc]; rfl, hgn⟩, rf_ym_CC g2 i2 hyg, by rw [i7, ← (g2.same 81 rfl).2]; exact rf_ym_CC g2 i2 (n := rf_snoc qx (.inner gj gk gu gf gx)) (i := u.2.1 81 qj) z5, hvd, fun q => hnv (i5 q).1, hlf, h3, ⟨by rw [hv1, er, List.append_assoc]; rfl, hv2b, fun q z => (List.mem_append.mp z).elim (hv3 (i5 q).1) (fun z2 => (i5 q).2 (by simpa using z2))⟩, i4, by omega, i6, i8, rfl⟩⟩
        refine w_q_distinct_47 (c_r_wrong hsL (d + 1) (by omega)) g1 hr ⟨by omega, by omega⟩ h3 ⟨by omega, by omega⟩ (fun q => absurd q hne) (fun _ => hB) hV (fun z t q => q.1) (fun z t w q => q.1) ?_ ?_
        · rintro z t w ⟨q1, q2, q3, _⟩ ⟨_, _, zz3⟩ zz4 t' p1 p2 p3 p4 p5 v hv
          have zzn : ¬ (∃ vs, (rf_lf2 fm).2 vs ∧ vs.Nodup) := by
            rintro ⟨vs, v1, v2⟩
            rw [hfm] at v1
            obtain ⟨va, vb, v3, v4, v5⟩ := rf_lf2_split v1
            obtain ⟨zw, vb2, v6, v7, v8⟩ := rf_lf2_c.mp v5
            have v9 : zw = x3 := rf_lf2_fun.1 v7 hlf
            have v10 : va = vd := rf_lf2_fun.2 v4 hvd
            have v11 : w = w0 := zz3 _ lf0
            rw [v3] at v2
            refine (List.nodup_append.mp v2).2.2 w0 ?_ w0 ?_ rfl
            · rw [v10, hv1, er]
              exact List.mem_append_right _ List.mem_cons_self
            · rw [v6, v9, ← zz4, v11]
              exact List.mem_cons_self
          have h75 := q1.arr 75 (by decide) rfl r.toNat
          have e40 := q2.2.1 40 rfl
          have e41 := q2.2.1 41 rfl
          have hFt := rf_FC_trans (T := []) (rf_FC_W p2 p3) (rf_FC_trans (T := []) (rf_FC_FB q2) g2 (fun _ z => z) (fun _ z => z)) (fun _ z => z) (fun _ z => z)
          refine goal t' v p1 hFt (rf_f_step p3 rfl (s40 g3 q2)) (rf_CB_same (rf_CB_trans q3 hcb (Nat.le_refl _)) (p3 50 rfl) (p3 56 rfl) (p3 58 rfl) (p2 0).2) (fun q => absurd q p4) (Or.inr ?_) (fun _ => zzn) ?_
          · rcases p5 with ⟨z1, z2, z3⟩ | ⟨z1, z2, z3⟩
            · omega
            · omega
          · rw [hv, (hFt.same 81 rfl).2, show x4.toNat = qj by omega]
        · rintro z t w ⟨q1, q2, q3, _⟩ ⟨w1, w2, w3⟩ hw1 v hv
          have e40 := q2.2.1 40 rfl
          have e41 := q2.2.1 41 rfl
          have hFt := rf_FC_trans (T := []) (rf_FC_FB q2) g2 (fun _ z => z) (fun _ z => z)
          have ew := w3 w0 lf0
          refine goal t v q1 hFt (s40 g3 q2) (rf_CB_trans q3 hcb (Nat.le_refl _)) (fun q => ⟨by omega, by omega⟩) (by omega) (fun q => hnp (by omega)) ?_
          rw [hv, (hFt.same 81 rfl).2, show x4.toNat = qj by omega]
