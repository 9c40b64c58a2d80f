/-! ===== the reference: distinct, its contract ===== -/
theorem rf_ym_CC {s u t : sx_S} (hu : rf_FC s u []) (ht : rf_FC s t []) {n : rf_N} {i : Int} (g : rf_ym u n i) : rf_ym t n i := by
  have e : ∀ j, rf_rk t j = rf_rk u j := fun j => by
    unfold rf_rk
    rw [(ht.same 74 rfl).2, (hu.same 74 rfl).2, ht.2.2.2.2.1 83 j (by omega) (by omega) List.not_mem_nil, hu.2.2.2.2.1 83 j (by omega) (by omega) List.not_mem_nil]
  refine rf_nd_mono (Int.le_of_eq ((hu.2.1 12 rfl).trans (ht.2.1 12 rfl).symm)) (fun j _ => ⟨e j, ?_, by rw [(ht.same 80 rfl).2, (hu.same 80 rfl).2], by rw [(ht.same 81 rfl).2, (hu.same 81 rfl).2]⟩) g
  rw [ht.2.2.2.2.1 82 j (by omega) (by omega) List.not_mem_nil, hu.2.2.2.2.1 82 j (by omega) (by omega) List.not_mem_nil]

theorem rf_gt_part {H : Nat → Int → Int → rf_T → Prop} {P : Nat → rf_T → Prop} {b : rf_N} {x : rf_T} : ∀ {a : rf_N} {u : rf_T}, (rf_gt H P (rf_snoc a b)).2 u x → ∃ w, (rf_gt H P b).2 w x ∧ rf_at w + rf_len a ≤ rf_at u
  | .leaf, u, h => ⟨u, h, Nat.le_refl _⟩
  | .inner j k v f y, u, ⟨A, B, h1, _, h3⟩ => by
    obtain ⟨w, h4, h5⟩ := rf_gt_part h3
    refine ⟨w, h4, ?_⟩
    have := rf_at_pos A
    have e : rf_at u = rf_at A + rf_at B := by
      rw [h1]
      rfl
    have e2 : rf_len (.inner j k v f y) = rf_len y + 1 := rfl
    omega
theorem rf_gt_len {H : Nat → Int → Int → rf_T → Prop} {P : Nat → rf_T → Prop} {x : rf_T} : ∀ {a : rf_N} {u : rf_T}, (rf_gt H P a).2 u x → rf_len a + rf_at x ≤ rf_at u
  | .leaf, u, h => by
    have e : u = x := h
    rw [e]
    exact Nat.le_of_eq (Nat.zero_add _)
  | .inner j k v f y, u, ⟨A, B, h1, _, h3⟩ => by
    have := rf_gt_len h3
    have := rf_at_pos A
    have e : rf_at u = rf_at A + rf_at B := by
      rw [h1]
      rfl
    have e2 : rf_len (.inner j k v f y) = rf_len y + 1 := rfl
    omega
theorem rf_gd_part {b : rf_N} : ∀ {a : rf_N}, (rf_gd (rf_snoc a b)).2 → (rf_gd b).2
  | .leaf, h => h
  | .inner _ _ _ _ _, h => rf_gd_part h.2
theorem rf_sc_part {G : Nat → Int → List Int → Prop} {Γ : List Int} {b : rf_N} : ∀ {a : rf_N}, (rf_sc G (rf_snoc a b)).2 Γ → (rf_sc G b).2 Γ
  | .leaf, h => h
  | .inner _ _ _ _ _, h => rf_sc_part h.2
theorem rf_ht_part {b : rf_N} : ∀ {a : rf_N}, (rf_ht b).2 ≤ (rf_ht (rf_snoc a b)).2
  | .leaf => Nat.le_refl _
  | .inner _ _ _ _ x => Nat.le_trans (rf_ht_part (a := x)) (Nat.le_max_right _ _)
theorem rf_nodup_part {b : rf_N} : ∀ {a : rf_N}, (rf_idx (rf_snoc a b)).Nodup → (rf_idx b).Nodup
  | .leaf, h => h
  | .inner j k _ f x, h => rf_nodup_part (a := x) ((List.nodup_append.mp (List.nodup_cons.mp h).2).2.1)
theorem rf_idx_slen (b : rf_N) : ∀ a : rf_N, (rf_idx (rf_snoc a b)).length = (rf_idx a).length + (rf_idx b).length
  | .leaf => (Nat.zero_add _).symm
  | .inner j k _ f x => by
    have := rf_idx_slen b x
    show (j :: (rf_idx f ++ rf_idx (rf_snoc x b))).length = (j :: (rf_idx f ++ rf_idx x)).length + _
    simp only [List.length_cons, List.length_append, this]
    omega
theorem rf_lf2_snocR {j : Nat} {k : Int × Int} {u : Unit} {p x : rf_N} : rf_snoc (.inner j k u p .leaf) x = .inner j k u p x := rfl
/-- what building a part wants, for a row -/
def rf_ro5 (s : sx_S) (Γ : List Int) (Z : Nat) (x : rf_T) (n : rf_N) : Prop := (∃ w, (rf_gt (rf_RH s) (rf_RP s) n).2 w x) ∧ (rf_gd n).2 ∧ (rf_sc rf_G1 n).2 Γ ∧ (rf_ht n).2 ≤ Z
theorem rf_ro5_part {s : sx_S} {Γ : List Int} {Z : Nat} {x : rf_T} {a b : rf_N} (h : rf_ro5 s Γ Z x (rf_snoc a b)) : rf_ro5 s Γ Z x b := by
  obtain ⟨⟨w, h1⟩, h2, h3, h4⟩ := h
  obtain ⟨w', h5, _⟩ := rf_gt_part h1
  exact ⟨⟨w', h5⟩, rf_gd_part h2, rf_sc_part h3, Nat.le_trans rf_ht_part h4⟩
/-- a part is built, and the variable is asked -/
theorem rf_bv {sL : Nat} {sx : Nat → Int32} (hsL : sL ≤ 3072) {Z d : Nat} (hZ : Z ≤ 1000) (hd : 10 * Z + 30 ≤ d) {s u : sx_S} {Γ : List Int} {x : rf_T} {j : Nat} {k : Int × Int} {v : Unit} {f y : rf_N} {i : Int} (hI : cx_I u) (hF : rf_FC s u []) (hr : rf_ro5 s Γ Z x (.inner j k v f y)) (hy : rf_ym u (.inner j k v f y) i) (h9 : 2 ≤ u.1 66 9 ∧ u.1 66 9 ≤ 6000) (hRB : rf_RB u (rf_s1 (.inner j k v f y))) : ∃ A, (∀ K : Int → sx_S → Prop, (∀ z t, (cx_I t ∧ rf_FB u t ∧ rf_CB u t (rf_s1 (.inner j k v f y)) ∧ rf_made (u.1 66 50) A t z (rf_PB (.inner j k v f y) Γ t)) → K z t) → sx_C sL sx d 182 [.inr (.inl 66), .inl i] u K) ∧ (∀ z t, (cx_I t ∧ rf_FB u t ∧ rf_CB u t (rf_s1 (.inner j k v f y)) ∧ rf_made (u.1 66 50) A t z (rf_PB (.inner j k v f y) Γ t)) → ∀ K : Int → sx_S → Prop, (∀ w, ((-2147483648 ≤ w ∧ w ≤ 2147483647) ∧ (w ≠ -1 → rf_lf (.inner j k v f y) w) ∧ ∀ q, rf_lf (.inner j k v f y) q → w = q) → K w t) → sx_C sL sx d 183 [.inr (.inl 66), .inl z] t K) := by
  obtain ⟨⟨w, A, B, h1, h2, h3⟩, h4, h5, h6⟩ := hr
  have hhr := rf_ht_r (j := j) (k := k) (u := v) (f := f) (x := y)
  refine ⟨A, fun K hK => ?_, ?_⟩
  · exact c_r_build hsL Z d hZ (by omega) (.inner j k v f y) A Γ i u K hI hy (by omega) ((rf_Rt_C hF (fun _ _ => List.not_mem_nil)).1 _ h2) h4.1 h5.1 h9 hRB (fun z t q1 q2 q3 q4 => hK z t ⟨q1, q2, q3, q4⟩)
  · rintro z t ⟨q1, q2, q3, ⟨N, n1, n2, n3, n4, n5, ⟨n6, n7⟩, n8⟩⟩ K hK
    exact c_r_varF hsL (9 * Z) d (by omega) N A z t K q1 (by omega) n1 n5 (by omega) (fun q z1 z2 z3 => hK q ⟨z1, fun hq => (n6 [] q).mp (z2 hq).2, fun p hp => z3 p ((n6 [] p).mpr hp)⟩)
theorem c_r_distinct {sL : Nat} {sx : Nat → Int32} (hsL : sL ≤ 3072) (Z d : Nat) (hZ : Z ≤ 1000) (hd : 10 * Z + 40 ≤ d) : ∀ (fm : rf_N) (U x : rf_T) (Γ : List Int) (r : Int) (s : sx_S) (K : Int → sx_S → Prop), cx_I s → (0 ≤ r ∧ r ≤ 599) → rf_ym s fm (s.2.1 80 r.toNat) → (rf_idx fm).Nodup → (rf_gt (rf_RH s) (rf_RP s) fm).2 U x → rf_at U ≤ 5 → (rf_gd fm).2 → (rf_sc rf_G1 fm).2 Γ → (rf_ht fm).2 ≤ Z → (2 ≤ s.1 66 9 ∧ s.1 66 9 ≤ 6000) → rf_RB s (4 * (rf_idx fm).length) → s.1 66 40 = 0 → (∀ (z : Int) (t : sx_S), cx_I t → rf_FC s t [] → rf_f [40, 41, 50, 56, 58] s t → rf_CB s t (4 * (rf_idx fm).length) → (t.1 66 40 = 0 → ∃ vs, (rf_lf2 fm).2 vs ∧ vs.Nodup) → (t.1 66 40 = 0 ∨ (0 ≤ t.1 66 41 ∧ t.1 66 41 ≤ 241)) → K z t) → sx_C sL sx d 172 [.inr (.inl 66), .inl r] s K := by
  intro fm U x Γ r s K hI hr hy hnd hty hU hgd hsc hht h9 hRB h40 hK
  obtain ⟨d, rfl⟩ : ∃ e, d = e + 2 := ⟨d - 2, by omega⟩
  have hro : rf_ro5 s Γ Z x fm := ⟨⟨U, hty⟩, hgd, hsc, hht⟩
  have hxp := rf_at_pos x
  have hlen := rf_gt_len hty
  have hrs : ∀ {u : sx_S} {g : rf_N} {i : Int}, cx_I u → rf_ym u g i → -1 ≤ i ∧ i ≤ 599 := fun {u} {g} {i} hu hg => by
    have h1 := rf_nd_rng hg
    have h2 := hu.fld 66 12 (by decide) rfl
    omega
  refine sx_methL (wr := true) (n := 400) (n' := 400) (stop := [(7, [0, 1, 2]), (47, [0, 1, 2, 3, 4])]) (fun n pc ls u => (pc = 7 ∧ ∃ (x2 : Int) (g D : rf_N) (vd : List Int), ls = [(0, .inr (.inl 66)), (1, .inl r), (2, .inl x2)] ∧ (cx_I u ∧ rf_FC s u [] ∧ rf_f [40, 41, 50, 56, 58] s u) ∧ fm = rf_snoc D g ∧ rf_ym u g x2 ∧ (rf_lf2 D).2 vd ∧ (u.1 66 40 = 0 → vd.Nodup) ∧ rf_CB s u (rf_len D * (rf_idx fm).length) ∧ (u.1 66 40 = 0 ∨ (0 ≤ u.1 66 41 ∧ u.1 66 41 ≤ 241)) ∧ n = 100 * rf_len g + 50) ∨ (pc = 47 ∧ ∃ (x2 x3 x4 : Int) (g D dq Dp : rf_N) (vd vp vr : List Int) (c : Nat), ls = [(0, .inr (.inl 66)), (1, .inl r), (2, .inl x2), (3, .inl x3), (4, .inl x4)] ∧ (cx_I u ∧ rf_FC s u [] ∧ rf_f [40, 41, 50, 56, 58] s u) ∧ (fm = rf_snoc D g ∧ D = rf_snoc Dp dq ∧ g ≠ .leaf) ∧ rf_ym u g x2 ∧ rf_ym u (rf_snoc dq g) x4 ∧ (rf_lf2 D).2 vd ∧ (u.1 66 40 = 0 → vd.Nodup) ∧ rf_lf g x3 ∧ (-2147483648 ≤ x3 ∧ x3 ≤ 2147483647) ∧ (vd = vp ++ vr ∧ (rf_lf2 dq).2 vr ∧ (u.1 66 40 = 0 → x3 ∉ vp)) ∧ rf_CB s u c ∧ c + (rf_idx (rf_snoc dq g)).length ≤ rf_len D * (rf_idx fm).length + rf_s1 g + (rf_idx fm).length ∧ (u.1 66 40 = 0 ∨ (0 ≤ u.1 66 41 ∧ u.1 66 41 ≤ 241)) ∧ n = 100 * rf_len g + rf_len dq)) hsL (e := eX12_distinct) rfl ?_ ?_
  · refine w_distinct hI hr (fun u hu => ⟨_, Or.inl ⟨rfl, u, fm, .leaf, [], rfl, ⟨hI, rf_FC_refl _ _, rf_f_refl _ _⟩, rfl, by rw [hu]; exact hy, rfl, fun _ => List.nodup_nil, ⟨by omega, by omega, by omega, by omega⟩, Or.inl h40, rfl⟩⟩)
  · have s40 : ∀ {u t : sx_S}, rf_f [40, 41, 50, 56, 58] s u → rf_FB u t → rf_f [40, 41, 50, 56, 58] s t := fun h1 h2 => rf_f_step h2.2.1 rfl h1
    rintro n pc ls u (⟨rfl, x2, g, D, vd, rfl, ⟨g1, g2, g3⟩, hfm, hyg, hvd, hnv, hcb, h41, rfl⟩ | ⟨rfl, x2, x3, x4, g, D, dq, Dp, vd, vp, vr, c, rfl, ⟨g1, g2, g3⟩, ⟨hfm, hD, hgn⟩, hyg, hyq, hvd, hnv, hlf, h3, ⟨hv1, hv2, hv3⟩, hcb, hc, h41, rfl⟩)
    · have e9 := g3 9 rfl
      have hl2 := rf_len_snoc g D
      rw [← hfm] at hl2
      have hr2 := hrs g1 hyg
      have hmul : (rf_len D) * (rf_idx fm).length ≤ 4 * (rf_idx fm).length := Nat.mul_le_mul_right _ (by omega)
      cases g with
      | leaf =>
        have e2 : x2 = -1 := hyg
        refine w_distinct_7 (PB := fun _ _ => False) (PV := fun _ _ _ => False) (c_r_wrong hsL (d + 1) (by omega)) hr hr2 (fun _ => ?_) (fun q => absurd e2 q) (fun _ _ q => q.elim) (fun _ _ q => q.elim) (fun _ _ _ q => q.elim) (fun _ _ q => q.elim) (fun _ _ _ q => q.elim)
        refine hK 0 u g1 g2 g3 ⟨?_, ?_, ?_, ?_⟩ (fun q => ⟨vd, by rw [hfm, rf_snoc_leaf]; exact hvd, hnv q⟩) h41
        · have := hcb.1
          omega
        · have := hcb.2.1
          omega
        · have := hcb.2.2.1
          omega
        · have := hcb.2.2.2
          omega
      | inner gj gk gu gf gx =>
        have elg : rf_len (.inner gj gk gu gf gx) = rf_len gx + 1 := rfl
        have hrg := rf_ro5_part (a := D) (b := .inner gj gk gu gf gx) (by rw [← hfm]; exact hro)
        have hsl := rf_idx_slen (.inner gj gk gu gf gx) D
        rw [← hfm] at hsl
        have hs1 := rf_s1_le (f := .inner gj gk gu gf gx)
        have hm2 : (rf_len D + 1) * (rf_idx fm).length ≤ 4 * (rf_idx fm).length := Nat.mul_le_mul_right _ (by omega)
        rw [Nat.add_mul, Nat.one_mul] at hm2
        obtain ⟨A, hB, hV⟩ := rf_bv hsL (d := d + 1) hZ (by omega) g1 g2 hrg hyg (by omega) (rf_RB_CB hRB hcb (by omega))
        have hy2 := hyg.1
        refine w_distinct_7 (c_r_wrong hsL (d + 1) (by omega)) hr hr2 (fun q => ?_) (fun _ => hB) hV (fun z t q => q.1) (fun z t w q => q.1) ?_ ?_
        · exfalso
          omega
        · rintro z t ⟨q1, q2, q3, _⟩ ⟨_, _, _⟩ t' p1 p2 p3 p4 p5
          have h75 := q1.arr 75 (by decide) rfl r.toNat
          refine hK 0 t' p1 (rf_FC_trans (rf_FC_W p2 p3) (rf_FC_trans (rf_FC_FB q2) g2 (fun _ z => z) (fun _ z => z)) (fun _ z => z) (fun _ z => z)) (rf_f_step p3 rfl (s40 g3 q2)) (rf_CB_same (rf_CB_trans q3 hcb (by omega)) (p3 50 rfl) (p3 56 rfl) (p3 58 rfl) (p2 0).2) (fun q => absurd q p4) (Or.inr ?_)
          rcases p5 with ⟨z1, z2, z3⟩ | ⟨z1, z2, z3⟩
          · have := q2.2.1 40 rfl
            have := q2.2.1 41 rfl
            omega
          · omega
        · rintro z t w ⟨q1, q2, q3, _⟩ ⟨w1, w2, w3⟩ hw1 v hv
          have hFs := rf_FC_trans (T := []) (rf_FC_FB q2) g2 (fun _ z => z) (fun _ z => z)
          have e40 := q2.2.1 40 rfl
          have e41 := q2.2.1 41 rfl
          refine ⟨_, ?_, Or.inr ⟨rfl, x2, w, v, .inner gj gk gu gf gx, D, D, .leaf, vd, [], vd, rf_len D * (rf_idx fm).length + rf_s1 (.inner gj gk gu gf gx), rfl, ⟨q1, hFs, s40 g3 q2⟩, ⟨hfm, rfl, fun q => by cases q⟩, rf_ym_up q2 hyg, ?_, hvd, fun q => hnv (by omega), w2 hw1, w1, ⟨rfl, hvd, fun _ => List.not_mem_nil⟩, rf_CB_trans q3 hcb (Nat.le_refl _), ?_, by omega, rfl⟩⟩
          · omega
          · rw [← hfm, hv, (hFs.same 80 rfl).2]
            exact rf_ym_C hFs (fun _ _ => List.not_mem_nil) hy
          · rw [← hfm]
            omega
    · have e9 := g3 9 rfl
      have hl2 := rf_len_snoc g D
      rw [← hfm] at hl2
      have hr2 := hrs g1 hyg
      have hr4 := hrs g1 hyq
      cases g with
      | leaf => exact absurd rfl hgn
      | inner gj gk gu gf gx =>
      have elg : rf_len (.inner gj gk gu gf gx) = rf_len gx + 1 := rfl
      have hs1 := rf_s1_le (f := .inner gj gk gu gf gx)
      have hm2 : (rf_len D + 1) * (rf_idx fm).length ≤ 4 * (rf_idx fm).length := Nat.mul_le_mul_right _ (by omega)
      rw [Nat.add_mul, Nat.one_mul] at hm2
      have hy2 := hyg
      obtain ⟨⟨y0, y1⟩, ⟨y2, y3⟩, y4, y5⟩ := hy2
      have hfq : fm = rf_snoc Dp (rf_snoc dq (.inner gj gk gu gf gx)) := by
        rw [hfm, hD, rf_snoc_assoc]
      cases dq with
      | leaf =>
        have e42 : x4 = x2 := by
          have h1 : x4 = (gj : Int) := hyq.1.1
          omega
        refine w_distinct_47 (PB := fun _ _ => False) (PV := fun _ _ _ => False) (c_r_wrong hsL (d + 1) (by omega)) g1 hr ⟨by omega, by omega⟩ h3 ⟨by omega, by omega⟩ (fun _ v hv => ?_) (fun q => absurd e42 q) (fun _ _ q => q.elim) (fun _ _ q => q.elim) (fun _ _ _ q => q.elim) (fun _ _ q => q.elim) (fun _ _ _ q => q.elim)
        have er : vr = [] := hv2
        subst er
        rw [List.append_nil] at hv1
        refine ⟨_, ?_, Or.inl ⟨rfl, v, gx, rf_snoc D (.inner gj gk gu gf .leaf), vd ++ [x3], rfl, ⟨g1, g2, g3⟩, ?_, ?_, rf_lf2_snoc1.mpr ⟨vd, x3, rfl, hvd, hlf⟩, fun q => ?_, ?_, h41, rfl⟩⟩
        · omega
        · rw [hfm, rf_snoc_assoc]
          rfl
        · rw [hv, show x2.toNat = gj by omega]
          exact y5
        · refine List.nodup_append.mpr ⟨hnv q, by simp, fun a ha b hb z => ?_⟩
          have eb : b = x3 := by simpa using hb
          rw [hv1] at ha
          exact hv3 q (by rw [← eb, ← z]; exact ha)
        · rw [rf_len_snoc]
          have e1 : rf_len (.inner gj gk gu gf .leaf) = 1 := rfl
          have hcc : c ≤ (rf_len D + 1) * (rf_idx fm).length := by
            rw [Nat.add_mul, Nat.one_mul]
            have h1 : (rf_idx (rf_snoc .leaf (.inner gj gk gu gf gx))).length = (rf_idx (.inner gj gk gu gf gx)).length := rfl
            omega
          rw [e1]
          obtain ⟨c1, c2, c3, c4⟩ := hcb
          exact ⟨by omega, by omega, by omega, by omega⟩
      | inner qj qk qu qf qx =>
        have hyq2 := hyq
        obtain ⟨⟨z0, z1⟩, ⟨z2, z3⟩, z4, z5⟩ := hyq2
        have hndq := rf_nodup_part (a := Dp) (b := rf_snoc (.inner qj qk qu qf qx) (.inner gj gk gu gf gx)) (by rw [← hfq]; exact hnd)
        have hne : x4 ≠ x2 := fun q => by
          have h1 : qj ∉ rf_idx qf ++ rf_idx (rf_snoc qx (.inner gj gk gu gf gx)) := (List.nodup_cons.mp hndq).1
          refine h1 (List.mem_append_right _ ((rf_idx_snoc _ _ _).mpr (Or.inr ?_)))
          have : qj = gj := by omega
          rw [this]
          exact List.mem_cons_self
        obtain ⟨w0, vr2, er, lf0, hv2b⟩ := hv2
        have hrq := rf_ro5_part (a := Dp) (b := rf_snoc (.inner qj qk qu qf qx) (.inner gj gk gu gf gx)) (by rw [← hfq]; exact hro)
        have hsq : (rf_idx (rf_snoc (.inner qj qk qu qf qx) (.inner gj gk gu gf gx))).length = rf_s1 (.inner qj qk qu qf (rf_snoc qx (.inner gj gk gu gf gx))) + (rf_idx (rf_snoc qx (.inner gj gk gu gf gx))).length := rf_s1_idx
        have hslq := rf_idx_slen (.inner gj gk gu gf gx) qx
        obtain ⟨A, hB, hV⟩ := rf_bv hsL (d := d + 1) hZ (by omega) g1 g2 hrq hyq (by omega) (rf_RB_CB (b := rf_s1 (.inner qj qk qu qf (rf_snoc qx (.inner gj gk gu gf gx)))) hRB hcb (by omega))
        have elq : rf_len (.inner qj qk qu qf qx) = rf_len qx + 1 := rfl
        have goal : ∀ (t : sx_S) (v : Int), cx_I t → rf_FC s t [] → rf_f [40, 41, 50, 56, 58] s t → rf_CB s t (c + rf_s1 (.inner qj qk qu qf (rf_snoc qx (.inner gj gk gu gf gx)))) → (t.1 66 40 = 0 → u.1 66 40 = 0 ∧ x3 ≠ w0) → (t.1 66 40 = 0 ∨ (0 ≤ t.1 66 41 ∧ t.1 66 41 ≤ 241)) → v = s.2.1 81 qj → ∃ n', n' < 100 * rf_len (.inner gj gk gu gf gx) + rf_len (.inner qj qk qu qf qx) ∧ (fun (n pc : Nat) (ls : sx_L) (u : sx_S) => (pc = 7 ∧ ∃ (x2 : Int) (g D : rf_N) (vd : List Int), ls = [(0, .inr (.inl 66)), (1, .inl r), (2, .inl x2)] ∧ (cx_I u ∧ rf_FC s u [] ∧ rf_f [40, 41, 50, 56, 58] s u) ∧ fm = rf_snoc D g ∧ rf_ym u g x2 ∧ (rf_lf2 D).2 vd ∧ (u.1 66 40 = 0 → vd.Nodup) ∧ rf_CB s u (rf_len D * (rf_idx fm).length) ∧ (u.1 66 40 = 0 ∨ (0 ≤ u.1 66 41 ∧ u.1 66 41 ≤ 241)) ∧ n = 100 * rf_len g + 50) ∨ (pc = 47 ∧ ∃ (x2 x3 x4 : Int) (g D dq Dp : rf_N) (vd vp vr : List Int) (c : Nat), ls = [(0, .inr (.inl 66)), (1, .inl r), (2, .inl x2), (3, .inl x3), (4, .inl x4)] ∧ (cx_I u ∧ rf_FC s u [] ∧ rf_f [40, 41, 50, 56, 58] s u) ∧ (fm = rf_snoc D g ∧ D = rf_snoc Dp dq ∧ g ≠ .leaf) ∧ rf_ym u g x2 ∧ rf_ym u (rf_snoc dq g) x4 ∧ (rf_lf2 D).2 vd ∧ (u.1 66 40 = 0 → vd.Nodup) ∧ rf_lf g x3 ∧ (-2147483648 ≤ x3 ∧ x3 ≤ 2147483647) ∧ (vd = vp ++ vr ∧ (rf_lf2 dq).2 vr ∧ (u.1 66 40 = 0 → x3 ∉ vp)) ∧ rf_CB s u c ∧ c + (rf_idx (rf_snoc dq g)).length ≤ rf_len D * (rf_idx fm).length + rf_s1 g + (rf_idx fm).length ∧ (u.1 66 40 = 0 ∨ (0 ≤ u.1 66 41 ∧ u.1 66 41 ≤ 241)) ∧ n = 100 * rf_len g + rf_len dq)) n' 47 [(0, .inr (.inl 66)), (1, .inl r), (2, .inl x2), (3, .inl x3), (4, .inl v)] t := fun t v i1 i2 i3 i4 i5 i6 i7 => ⟨100 * rf_len (.inner gj gk gu gf gx) + rf_len qx, by omega, Or.inr ⟨rfl, x2, x3, v, .inner gj gk gu gf gx, D, qx, rf_snoc Dp (.inner qj qk qu qf .leaf), vd, vp ++ [w0], vr2, c + rf_s1 (.inner qj qk qu qf (rf_snoc qx (.inner gj gk gu gf gx))), rfl, ⟨i1, i2, i3⟩, ⟨hfm, by rw [hD, rf_snoc_assoc]; rfl, hgn⟩, rf_ym_CC g2 i2 hyg, by rw [i7, ← (g2.same 81 rfl).2]; exact rf_ym_CC g2 i2 (n := rf_snoc qx (.inner gj gk gu gf gx)) (i := u.2.1 81 qj) z5, hvd, fun q => hnv (i5 q).1, hlf, h3, ⟨by rw [hv1, er, List.append_assoc]; rfl, hv2b, fun q z => (List.mem_append.mp z).elim (hv3 (i5 q).1) (fun z2 => (i5 q).2 (by simpa using z2))⟩, i4, by omega, i6, rfl⟩⟩
        refine w_distinct_47 (c_r_wrong hsL (d + 1) (by omega)) g1 hr ⟨by omega, by omega⟩ h3 ⟨by omega, by omega⟩ (fun q => absurd q hne) (fun _ => hB) hV (fun z t q => q.1) (fun z t w q => q.1) ?_ ?_
        · rintro z t ⟨q1, q2, q3, _⟩ t' p1 p2 p3 p4 p5 v hv
          have h75 := q1.arr 75 (by decide) rfl r.toNat
          have e40 := q2.2.1 40 rfl
          have e41 := q2.2.1 41 rfl
          have hFt := rf_FC_trans (T := []) (rf_FC_W p2 p3) (rf_FC_trans (T := []) (rf_FC_FB q2) g2 (fun _ z => z) (fun _ z => z)) (fun _ z => z) (fun _ z => z)
          refine goal t' v p1 hFt (rf_f_step p3 rfl (s40 g3 q2)) (rf_CB_same (rf_CB_trans q3 hcb (Nat.le_refl _)) (p3 50 rfl) (p3 56 rfl) (p3 58 rfl) (p2 0).2) (fun q => absurd q p4) (Or.inr ?_) ?_
          · rcases p5 with ⟨z1, z2, z3⟩ | ⟨z1, z2, z3⟩
            · omega
            · omega
          · rw [hv, (hFt.same 81 rfl).2, show x4.toNat = qj by omega]
        · rintro z t w ⟨q1, q2, q3, _⟩ ⟨w1, w2, w3⟩ hw1 v hv
          have e40 := q2.2.1 40 rfl
          have e41 := q2.2.1 41 rfl
          have hFt := rf_FC_trans (T := []) (rf_FC_FB q2) g2 (fun _ z => z) (fun _ z => z)
          have ew := w3 w0 lf0
          refine goal t v q1 hFt (s40 g3 q2) (rf_CB_trans q3 hcb (Nat.le_refl _)) (fun q => ⟨by omega, by omega⟩) (by omega) ?_
          rw [hv, (hFt.same 81 rfl).2, show x4.toNat = qj by omega]
