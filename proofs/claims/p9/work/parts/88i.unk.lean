section
/-! ===== the desk writes an open unknown: its number and its order are those of the numbering ===== -/
theorem wd_N_at {s : sx_S} {S : vx_S} {a : List (Int × List Int)} {m : Int} (h : wd_N s S a) (m0 : 0 ≤ m) (m1 : m < S.1) (hb : S.2.2.2.1 m = none) (r4 : 0 ≤ S.2.2.1 m ∧ S.2.2.1 m ≤ 4) (hm : -1 - m ∈ a.map Prod.fst) : s.2.1 63 m.toNat = vx_ii (a.map Prod.fst) (-1 - m) ∧ vx_ii (a.map Prod.fst) (-1 - m) < (a.length : Int) ∧ ∀ p : Nat, (p : Int) < S.2.2.1 m → s.2.1 64 (m * 4 + (p : Int)).toNat = ((we_od (we_rw a (-1 - m)) p : Nat) : Int) ∧ ((we_od (we_rw a (-1 - m)) p : Nat) : Int) < S.2.2.1 m := by
  obtain ⟨_, hn, _, h3⟩ := h trivial
  rcases (h3 m m0 m1).1 hb with ⟨_, c⟩ | ⟨i, xs, c1, c2, c3, c4, c5⟩
  · exact absurd hm c
  · have hi : i < a.length := (List.getElem?_eq_some_iff.mp c1).1
    refine ⟨by rw [we_ii_at hn c1]; exact c2, by rw [we_ii_at hn c1]; omega, fun p hp => ?_⟩
    rw [we_rw_at hn c1]
    obtain ⟨k, k1, k2⟩ := rf_rnk_sur (D := fun i => xs.getD i (-1)) (n := xs.length) (by omega) c4 (r := p) (by omega)
    have := c5 k k1
    rw [k2] at this
    rw [this, ← k2, we_od_at c4 k1]
    exact ⟨rfl, by omega⟩
theorem wk_gm {f : Int → Int} {l : List Int} {k : Nat} (hk : k < l.length) : (l.map f).getD k (-1) = f (l.getD k (-1)) := by
  rw [List.getD_eq_getElem?_getD, List.getD_eq_getElem?_getD, List.getElem?_map, List.getElem?_eq_getElem hk]
  rfl
theorem wk_U_of {s : sx_S} {S : vx_S} {a : List (Int × List Int)} {m : Int} {F : rf_N} {c : List (Int × Int)} {ht : Int → List rf_T} (hN : wd_N s S a) (m0 : 0 ≤ m) (m1 : m < S.1) (hb : S.2.2.2.1 m = none) (hl : (rf_len F : Int) = S.2.2.1 m) (h4 : rf_len F ≤ 4) (hm : -1 - m ∈ a.map Prod.fst) (hv : ∀ k : Nat, k < rf_len F → (0 ≤ dv_lk c ((dz_hs F).getD k (-1)) ∧ dv_lk c ((dz_hs F).getD k (-1)) ≤ 99990000) ∧ (0 ≤ (dz_hs F).getD k (-1) ∧ (dz_hs F).getD k (-1) < s.1 11 8) ∧ wk_ty s ((ht (-1 - m)).getD k .leaf) (s.2.1 17 ((dz_hs F).getD k (-1)).toNat) ∧ rf_at ((ht (-1 - m)).getD k .leaf) ≤ 5) : wz_ad a (-1 - m) ((dz_hs F).map (dv_lk c)) = a ∧ wk_U s F c m (vx_ii (a.map Prod.fst) (-1 - m)).toNat ((List.range ((dz_hs F).map (dv_lk c)).length).map (fun p => (ht (-1 - m)).getD (we_od (we_rw a (-1 - m)) p) .leaf)) ((List.range ((dz_hs F).map (dv_lk c)).length).map (fun p => ((dz_hs F).map (dv_lk c)).getD (we_od (we_rw a (-1 - m)) p) (-1))) := by
  obtain ⟨n1, n2, n3⟩ := wd_N_at hN m0 m1 hb (by omega) hm
  have i0 := vx_ii_0 (a.map Prod.fst) (-1 - m)
  have e0 : ((dz_hs F).map (dv_lk c)).length = rf_len F := by rw [List.length_map, dz_hs_len]
  refine ⟨by unfold wz_ad; rw [if_pos hm], fun _ => ⟨by rw [n1]; omega, ⟨by rw [List.length_map, List.length_range, e0], by rw [List.length_map, List.length_range, e0]⟩, fun p hp => ?_⟩⟩
  obtain ⟨o1, o2⟩ := n3 p (by omega)
  have ok : we_od (we_rw a (-1 - m)) p < rf_len F := by omega
  obtain ⟨v1, v2, v3, v4⟩ := hv _ ok
  refine ⟨we_od (we_rw a (-1 - m)) p, _, _, o1, ok, ?_, ?_, rfl, v1, v2, v3, v4⟩
  · rw [List.getElem?_map, e0, List.getElem?_range hp]
    rfl
  · rw [List.getElem?_map, e0, List.getElem?_range hp]
    show some (((dz_hs F).map (dv_lk c)).getD (we_od (we_rw a (-1 - m)) p) (-1)) = _
    rw [wk_gm (by rw [dz_hs_len]; exact ok)]
/-- what is put of an open unknown is what its value writes -/
theorem wk_U_w {nm : Int → List Int} {S : vx_S} {a : List (Int × List Int)} {m L : Int} {F : rf_N} {c : List (Int × Int)} {ht : Int → List rf_T} {th : Int → rf_N} {j : Nat} {o : List Int} (hS : vx_So S th) (ho : th m = vx_gn S.2.2.1 m) (hA : S.2.2.2.2 j = dz_hs F) (hl : (rf_len F : Int) = S.2.2.1 m) (m0 : 0 ≤ m) (ha : wz_ad a (-1 - m) ((dz_hs F).map (dv_lk c)) = a) : (we_w wk_pb wb_dg nm (we_hf wk_pb wb_dg nm ht) (wd_v th S.2.2.2.2 (rf_n j 3 m F .leaf, dv_lk c, L))).1 L (a, o) = (a, o ++ (104 :: (wb_dg (((vx_ii (a.map Prod.fst) (-1 - m)).toNat : Nat) : Int) ++ wk_rl ((List.range ((dz_hs F).map (dv_lk c)).length).map (fun p => (ht (-1 - m)).getD (we_od (we_rw a (-1 - m)) p) .leaf)) ((List.range ((dz_hs F).map (dv_lk c)).length).map (fun p => ((dz_hs F).map (dv_lk c)).getD (we_od (we_rw a (-1 - m)) p) (-1))) L))) := by
  obtain ⟨Fv, e1, e2⟩ := wd_open (L := L) (F := F) (e := dv_lk c) (j := j) hS ho (by rw [hA, dz_hs_len]; exact hl)
  have i0 := vx_ii_0 (a.map Prod.fst) (-1 - m)
  rw [e1, we_hol _ _ _ _ (by omega), e2, hA, wk_hf]
  show (wz_ad a (-1 - m) _, _) = _
  rw [ha, Int.toNat_of_nonneg i0]
  rfl
end
section
/-! ===== the writer's pile: the ARGs on a way down ===== -/
def vx_ha : rf_N → Nat
  | .leaf => 0
  | .inner _ q _ F X => max (if q.1 = 3 then 0 else if q.1 = 0 then vx_ha F else vx_ha F + rf_len F) (vx_ha X)
theorem vx_ha_in (j : Nat) (q : Int × Int) (u : Unit) (F X : rf_N) : vx_ha (.inner j q u F X) = max (if q.1 = 3 then 0 else if q.1 = 0 then vx_ha F else vx_ha F + rf_len F) (vx_ha X) := rfl
theorem vx_ha_lam {j : Nat} {x : Int} {F : rf_N} : vx_ha (rf_n j 0 x F .leaf) = vx_ha F := by
  rw [vx_ha_in, if_neg vx_03, if_pos rfl]
  exact Nat.max_eq_left (Nat.zero_le _)
theorem vx_ha_rig {j : Nat} {k h : Int} {F : rf_N} (h0 : k ≠ 0) (h3 : k ≠ 3) : vx_ha (rf_n j k h F .leaf) = vx_ha F + rf_len F := by
  rw [vx_ha_in, if_neg h3, if_neg h0]
  exact Nat.max_eq_left (Nat.zero_le _)
theorem vx_ha_call {j : Nat} {m : Int} {F : rf_N} : vx_ha (rf_n j 3 m F .leaf) = 0 := by
  rw [vx_ha_in, if_pos rfl]
  rfl
theorem vx_ha_el {A : rf_N} : ∀ {F : rf_N}, A ∈ vx_el F → vx_ha A ≤ vx_ha F
  | .leaf, h => absurd h List.not_mem_nil
  | .inner j q u F X, h => by
    rw [vx_ha_in]
    rcases List.mem_cons.mp h with rfl | h
    · rw [vx_ha_in]
      have e1 : vx_ha .leaf = 0 := rfl
      rw [e1]
      omega
    · have := vx_ha_el h
      omega
theorem vx_ha_snoc {g : rf_N} : ∀ {f : rf_N}, vx_ha (rf_snoc f g) = max (vx_ha f) (vx_ha g)
  | .leaf => (Nat.max_eq_right (Nat.zero_le _)).symm
  | .inner j q u F X => by
    have i1 := vx_ha_snoc (g := g) (f := X)
    show vx_ha (.inner j q () F (rf_snoc X g)) = _
    rw [vx_ha_in, vx_ha_in, i1]
    omega
/-- a part of a term -/
theorem vx_ha_su {C : rf_N} : ∀ {T : rf_N}, vw_su C T → vx_ha C ≤ vx_ha T
  | .leaf, h => h.elim
  | .inner j q u F X, h => by
    rw [vx_ha_in]
    rcases h with h | ⟨h3, h⟩ | h
    · rw [h, vx_ha_in]
      have e1 : vx_ha .leaf = 0 := rfl
      rw [e1]
      omega
    · have := vx_ha_su h
      rw [if_neg h3]
      by_cases c : q.1 = 0
      · rw [if_pos c]
        omega
      · rw [if_neg c]
        omega
    · have := vx_ha_su h
      omega
section
variable {SN : Int → Int → Prop} {C M : List (Int × qx_T)} {TV : Int → qx_T → Prop} {AR : Nat → List Int} {K : Nat → Int}
theorem vl_c1_ha : ∀ {x : qx_T} {W : rf_N} {k h : Int} {f : rf_N} {ρ : List Int}, vl_c1 TV x W k h f ρ → k ≠ 0 → k ≠ 3 → vx_ha W + 1 ≤ vx_ha f + rf_len f + qx_at x := by
  intro x
  induction x with
  | leaf =>
    rintro W k h f ρ ⟨j, e⟩ k0 k3
    rw [e, vx_ha_rig k0 k3]
    exact Nat.le_refl _
  | inner n b u x y ihx ihy =>
    intro W k h f ρ hc k0 k3
    rcases hc with ⟨rfl, j, e⟩ | ⟨⟨rfl, rfl⟩, j, v, g, W', e, _, h3, h4, h5⟩
    · rw [e, vx_ha_rig k0 k3]
      exact Nat.le_refl _
    · have a1 := ihx h4 (by decide) (by decide)
      have b1 := ihy h5 k0 k3
      have ea : qx_at (.inner 0 false u x y) = qx_at x + qx_at y := rfl
      have z1 : vx_ha .leaf = 0 := rfl
      have z2 : rf_len .leaf = 0 := rfl
      have z3 : rf_len g = 1 := by
        obtain ⟨j', k', h', G, rfl⟩ := h3
        rfl
      rw [vx_ha_snoc, rf_len_snoc, z3] at b1
      rw [z1, z2] at a1
      rw [e, vx_ha_lam, ea]
      omega
theorem vl_c3_ha : ∀ {x : qx_T} {W : rf_N} {h : Int} {vs : List Int} {ρ : List Int}, vl_c3 TV AR x W h vs ρ → vx_ha W = 0 := by
  intro x
  induction x with
  | leaf =>
    rintro W h vs ρ ⟨j, F, e, ea⟩
    rw [e, vx_ha_call]
  | inner n b u x y ihx ihy =>
    intro W h vs ρ hc
    rcases hc with ⟨rfl, j, F, e, ea⟩ | ⟨⟨rfl, rfl⟩, j, v, W', e, _, h5⟩
    · rw [e, vx_ha_call]
    · rw [e, vx_ha_lam]
      exact ihy h5
theorem vl_ha_row {f : Nat} {Γ : List (Int × qx_T)} {ρ : List Int} (hT : ∀ {a c : Int} {t : px_N} {W : rf_N} {x : qx_T}, px_TM K f a t c → (vl_tm SN C M TV AR t).1 W Γ ρ x → vx_ha W ≤ 4 * f) : ∀ {r : px_N} {a c : Int} {F : rf_N} {U L : qx_T}, vl_row K (px_TM K f) r a c → (vl_tm SN C M TV AR r).2 F Γ ρ U L → rf_len F + qx_at L ≤ qx_at U ∧ (vx_ha F ≤ 4 * f ∨ vx_ha F + rf_len F + qx_at L ≤ qx_at U)
  | .leaf, a, c, F, U, L, h, ⟨h1, h2⟩ => by
    subst h1 h2
    have z1 : vx_ha .leaf = 0 := rfl
    have z2 : rf_len .leaf = 0 := rfl
    rw [z1, z2]
    exact ⟨by omega, Or.inl (Nat.zero_le _)⟩
  | .inner g q u p n, a, c, F, U, L, ⟨e, h1, h2⟩, hv => by
    obtain ⟨W, X, A, U', ⟨a1, a2⟩, a3, a4, a5⟩ := vl_tm_c.mp hv
    have eU : qx_at U = qx_at A + qx_at U' := by
      rw [a3]
      rfl
    have pA := qx_at_pos A
    have hE : vx_ha W ≤ 4 * f ∨ vx_ha W + 1 ≤ qx_at A := by
      rcases h1 with ⟨k1, e', k2, k3, k4⟩ | ⟨k1, g1, f1, k4⟩
      · exact Or.inl (hT k2 a4)
      · subst g1 f1
        rcases a4 with ⟨g0, _⟩ | ⟨_, k, i, U2, h0, w1, _, w3⟩
        · exact absurd g0 (by decide)
        · have k0 : k ≠ 0 := by
            rcases w1 with ⟨z, _⟩ | ⟨z, _⟩ | ⟨z, _⟩ <;> omega
          rcases w3 with ⟨k3, G, ⟨r0, r1⟩, r2⟩ | ⟨k3, ls, r1, _, _, r2⟩
          · subst r0
            have := vl_c1_ha r2 k0 k3
            have z1 : vx_ha .leaf = 0 := rfl
            have z2 : rf_len .leaf = 0 := rfl
            rw [z1, z2] at this
            exact Or.inr (by omega)
          · have := vl_c3_ha r2
            exact Or.inr (by omega)
    obtain ⟨r1, r2⟩ := vl_ha_row hT h2 a5
    have sn : vx_ha (vx_sb W X) = max (vx_ha W) (vx_ha X) ∧ rf_len (vx_sb W X) = rf_len X + 1 := by
      obtain ⟨j, k, h, G, rfl⟩ := a1
      have es : vx_sb (rf_n j k h G .leaf) X = rf_snoc (rf_n j k h G .leaf) X := rfl
      rw [es]
      exact ⟨vx_ha_snoc, rfl⟩
    obtain ⟨sn1, sn2⟩ := sn
    subst a2
    rw [sn1, sn2]
    refine ⟨by omega, ?_⟩
    rcases hE with hE | hE
    · rcases r2 with r2 | r2
      · exact Or.inl (by omega)
      · by_cases c : vx_ha X ≤ vx_ha W
        · exact Or.inl (by omega)
        · exact Or.inr (by omega)
    · rcases r2 with r2 | r2
      · by_cases c : vx_ha X ≤ vx_ha W
        · exact Or.inr (by omega)
        · exact Or.inl (by omega)
      · exact Or.inr (by omega)
theorem vl_ha_tm (hC : ∀ q ∈ C, qx_at q.2 ≤ 5) (hM : ∀ q ∈ M, qx_at q.2 ≤ 5) : ∀ {f : Nat} {Γ : List (Int × qx_T)} {ρ : List Int} {a c : Int} {t : px_N} {W : rf_N} {x : qx_T}, (∀ q ∈ Γ, qx_at q.2 ≤ 5) → px_TM K f a t c → (vl_tm SN C M TV AR t).1 W Γ ρ x → vx_ha W ≤ 4 * f
  | 0, _, _, _, _, _, _, _, _, h, _ => h.elim
  | f + 1, Γ, ρ, a, c, t, W, x, hΓ, h, hv => by
    rcases h with ⟨k1, k2, k3, y, e, h1, k4, u, h2, ht⟩ | ⟨k1, r, ⟨g, h1⟩, ht⟩
    · subst ht
      rcases hv with ⟨_, j, v, F, B, v1, ⟨_, _, _, v2⟩, v3, v4⟩ | ⟨g0, _⟩
      · have hΓ' : ∀ q ∈ ((a + 1, y) :: Γ), qx_at q.2 ≤ 5 := fun q hq => by
          rcases List.mem_cons.mp hq with rfl | hq
          · exact v2
          · exact hΓ q hq
        have := vl_ha_tm hC hM hΓ' h2 v3
        rw [v1, vx_ha_lam]
        omega
      · exact absurd rfl g0
    · subst ht
      obtain ⟨r2, er, hr⟩ := vl_ARg_row (fun _ _ _ => px_TM_one) h1
      have er' : r = r2 := er
      subst er'
      rcases hv with ⟨g0, _⟩ | ⟨_, k, i, U, h0, w1, _, w3⟩
      · exact absurd g0 (by decide)
      · have hU := vl_hd5 hC hM hΓ w1
        have k0 : k ≠ 0 := by
          rcases w1 with ⟨z, _⟩ | ⟨z, _⟩ | ⟨z, _⟩ <;> omega
        rcases w3 with ⟨k3, F, r1, r2⟩ | ⟨k3, ls, r1, _, r3, r2⟩
        · have c1 := vl_c1_ha r2 k0 k3
          obtain ⟨q1, q2⟩ := vl_ha_row (fun ht' hv' => vl_ha_tm hC hM hΓ ht' hv') hr r1
          omega
        · have := vl_c3_ha r2
          omega
end
/-- both sides of each equation -/
theorem vl_ha_tx {SN : Int → Int → Prop} {TV : Int → qx_T → Prop} {AR : Nat → List Int} {K : Nat → Int} : ∀ {l : List vl_I} {a : Int} {C M : List (Int × qx_T)} {e0 : Nat} {tl : vw_L}, vl_TX K l a → px_ck SN l C M e0 → vl_tx SN TV AR l C M tl → (∀ q ∈ C, qx_at q.2 ≤ 5) → (∀ q ∈ M, qx_at q.2 ≤ 5) → ∀ q ∈ tl, vx_ha q.1 ≤ 84 ∧ vx_ha q.2 ≤ 84
  | [], a, C, M, e0, tl, h, _, ht, _, _ => by
    have ht' : tl = [] := ht
    subst ht'
    exact fun q hq => absurd hq List.not_mem_nil
  | q :: l, a, C, M, e0, tl, ⟨c, hi, hx⟩, hck, ht, hC, hM => by
    rcases hi with ⟨k1, k2, k3, x, e, h1, k4, k5, hq⟩ | ⟨k1, t, e, u, g, h1, k2, h2, k3, k4, hq⟩
    · have q1 : q.1.1 = 3 ∨ q.1.1 = 4 := by rw [hq]; exact k1
      rcases hck with ⟨_, _, _, _, c5, c6⟩ | ⟨_, _, _, _, c5, c6⟩ | ⟨z, _⟩
      · rcases ht with ⟨_, ht⟩ | ⟨z, _⟩ | ⟨z, _⟩
        · exact vl_ha_tx hx c6 ht (fun p hp' => by
            rcases List.mem_append.mp hp' with hp' | hp'
            · exact hC p hp'
            · rw [List.mem_singleton.mp hp']
              exact c5) hM
        · omega
        · omega
      · rcases ht with ⟨z, _⟩ | ⟨_, ht⟩ | ⟨z, _⟩
        · omega
        · exact vl_ha_tx hx c6 ht hC (fun p hp' => by
            rcases List.mem_append.mp hp' with hp' | hp'
            · exact hM p hp'
            · rw [List.mem_singleton.mp hp']
              exact c5)
        · omega
      · omega
    · have q1 : q.1.1 = 5 := by rw [hq]
      have q2 : q.2.1 = t ∧ q.2.2 = u := by rw [hq]; exact ⟨rfl, rfl⟩
      rcases hck with ⟨z, _⟩ | ⟨z, _⟩ | ⟨_, c2, _, c4⟩
      · omega
      · omega
      · rcases ht with ⟨z, _⟩ | ⟨z, _⟩ | ⟨_, L, R, l', x, el, v1, v2, ht⟩
        · omega
        · omega
        · rw [q2.1] at v1
          rw [q2.2] at v2
          have b1 := vl_ha_tm hC hM (Γ := []) (fun _ h => absurd h List.not_mem_nil) h1 v1
          have b2 := vl_ha_tm hC hM (Γ := []) (fun _ h => absurd h List.not_mem_nil) h2 v2
          have ih := vl_ha_tx hx c4 ht hC hM
          subst el
          intro p hp
          rcases List.mem_cons.mp hp with rfl | hp
          · exact ⟨b1, b2⟩
          · exact ih p hp
end
section
/-! ===== constants are those of the text; the types of ARGs are small ===== -/
def wk_kc (n : Int) : rf_N → Prop
  | .leaf => True
  | .inner _ q _ F X => (q.1 = 1 → q.2 < n) ∧ (q.1 ≠ 3 → wk_kc n F) ∧ wk_kc n X
theorem wk_kc_el {n : Int} {A : rf_N} : ∀ {F : rf_N}, A ∈ vx_el F → wk_kc n F → wk_kc n A
  | .leaf, h, _ => absurd h List.not_mem_nil
  | .inner j q u F X, h, ⟨h1, h2, h3⟩ => by
    rcases List.mem_cons.mp h with rfl | h
    · exact ⟨h1, h2, trivial⟩
    · exact wk_kc_el h h3
theorem wk_kc_su {n : Int} {C : rf_N} : ∀ {T : rf_N}, vw_su C T → wk_kc n T → wk_kc n C
  | .leaf, h, _ => h.elim
  | .inner j q u F X, h, ⟨h1, h2, h3⟩ => by
    rcases h with h | ⟨k3, h⟩ | h
    · rw [h]
      exact ⟨h1, h2, trivial⟩
    · exact wk_kc_su h (h2 k3)
    · exact wk_kc_su h h3
theorem wk_kc_snoc {n : Int} {g : rf_N} : ∀ {f : rf_N}, wk_kc n f → wk_kc n g → wk_kc n (rf_snoc f g)
  | .leaf, _, h => h
  | .inner _ _ _ _ _, ⟨h1, h2, h3⟩, h => ⟨h1, h2, wk_kc_snoc h3 h⟩
/-- all ARGs have at most five atoms -/
def wk_tb : rf_T → Prop
  | .leaf => True
  | .inner _ _ _ A B => rf_at A ≤ 5 ∧ wk_tb B
theorem wk_tb_5 : ∀ {t : rf_T}, rf_at t ≤ 5 → wk_tb t
  | .leaf, _ => trivial
  | .inner _ _ _ A B, h => by
    have e : rf_at A + rf_at B ≤ 5 := h
    have h1 : rf_at A ≤ 5 := by omega
    exact ⟨h1, wk_tb_5 (by omega)⟩
section
variable {SN : Int → Int → Prop} {C M : List (Int × qx_T)} {TV : Int → qx_T → Prop} {AR : Nat → List Int}
theorem vl_c1_kc {n : Int} : ∀ {x : qx_T} {W : rf_N} {k h : Int} {f : rf_N} {ρ : List Int}, vl_c1 TV x W k h f ρ → wk_kc n f → (k = 1 → h < n) → wk_kc n W := by
  intro x
  induction x with
  | leaf =>
    rintro W k h f ρ ⟨j, e⟩ hf hk
    rw [e]
    exact ⟨hk, fun _ => hf, trivial⟩
  | inner z b u x y ihx ihy =>
    intro W k h f ρ hc hf hk
    rcases hc with ⟨rfl, j, e⟩ | ⟨⟨rfl, rfl⟩, j, v, g, W', e, _, h3, h4, h5⟩
    · rw [e]
      exact ⟨hk, fun _ => hf, trivial⟩
    · have a1 := ihx h4 (show wk_kc n .leaf from trivial) (fun c => absurd c (by decide))
      have b1 := ihy h5 (wk_kc_snoc hf a1) hk
      rw [e]
      exact ⟨fun c => absurd c (show ¬ (0 : Int) = 1 by decide), fun _ => b1, trivial⟩
theorem vl_c3_kc {n : Int} : ∀ {x : qx_T} {W : rf_N} {h : Int} {vs : List Int} {ρ : List Int}, vl_c3 TV AR x W h vs ρ → wk_kc n W := by
  have fin : ∀ {j : Nat} {h : Int} {F : rf_N}, wk_kc n (rf_n j 3 h F .leaf) := fun {j h F} => ⟨fun c => absurd c (show ¬ (3 : Int) = 1 by decide), fun c => absurd rfl c, trivial⟩
  intro x
  induction x with
  | leaf =>
    rintro W h vs ρ ⟨j, F, e, ea⟩
    rw [e]
    exact fin
  | inner z b u x y ihx ihy =>
    intro W h vs ρ hc
    rcases hc with ⟨rfl, j, F, e, ea⟩ | ⟨⟨rfl, rfl⟩, j, v, W', e, _, h5⟩
    · rw [e]
      exact fin
    · have b1 := ihy h5
      rw [e]
      exact ⟨fun c => absurd c (show ¬ (0 : Int) = 1 by decide), fun _ => b1, trivial⟩
theorem vl_tm_kc {nC : Int} (hC : (C.length : Int) ≤ nC) : ∀ {n : px_N}, (∀ {W : rf_N} {Γ : List (Int × qx_T)} {ρ : List Int} {x : qx_T}, (vl_tm SN C M TV AR n).1 W Γ ρ x → wk_kc nC W) ∧ (∀ {F : rf_N} {Γ : List (Int × qx_T)} {ρ : List Int} {U L : qx_T}, (vl_tm SN C M TV AR n).2 F Γ ρ U L → wk_kc nC F)
  | .leaf => ⟨fun h => h.elim, fun h => by
    have h1 := h.1
    subst h1
    trivial⟩
  | .inner g q u f n => by
    obtain ⟨f1, f2⟩ := vl_tm_kc hC (n := f)
    obtain ⟨_, n2⟩ := vl_tm_kc hC (n := n)
    have one : ∀ {W : rf_N} {Γ : List (Int × qx_T)} {ρ : List Int} {x : qx_T}, (vl_tm SN C M TV AR (.inner g q u f n)).1 W Γ ρ x → wk_kc nC W := by
      intro W Γ ρ x h
      rcases h with ⟨_, j, v, F, B, v1, _, v3, _⟩ | ⟨_, k, i, U, h0, w1, w2, w3⟩
      · rw [v1]
        exact ⟨fun c => absurd c (show ¬ (0 : Int) = 1 by decide), fun _ => f1 v3, trivial⟩
      · rcases w3 with ⟨k3, F, r1, r2⟩ | ⟨k3, ls, r1, _, r3, r2⟩
        · refine vl_c1_kc r2 (f2 r1) (fun k1 => ?_)
          rcases w1 with ⟨z, _⟩ | ⟨_, _, z⟩ | ⟨z, _⟩
          · omega
          · obtain ⟨p, q1, _⟩ := vl_cf_at z
            have := (List.getElem?_eq_some_iff.mp q1).1
            rw [w2.2 (by omega)]
            omega
          · omega
        · exact vl_c3_kc r2
    refine ⟨one, fun {F Γ ρ U L} h => ?_⟩
    obtain ⟨W, X, A, U', ⟨a1, a2⟩, a3, a4, a5⟩ := vl_tm_c.mp h
    have b1 := one a4
    have b2 := n2 a5
    obtain ⟨j, k, h', G, rfl⟩ := a1
    have es : vx_sb (rf_n j k h' G .leaf) X = rf_snoc (rf_n j k h' G .leaf) X := rfl
    rw [a2, es]
    exact wk_kc_snoc b1 b2
/-- the type of a TERM -/
theorem vl_tm_tb (hC : ∀ q ∈ C, qx_at q.2 ≤ 5) (hM : ∀ q ∈ M, qx_at q.2 ≤ 5) : ∀ {n : px_N} {W : rf_N} {Γ : List (Int × qx_T)} {ρ : List Int} {x : qx_T}, (∀ q ∈ Γ, qx_at q.2 ≤ 5) → (vl_tm SN C M TV AR n).1 W Γ ρ x → wk_tb (qx_sh x)
  | .leaf, _, _, _, _, _, h => h.elim
  | .inner g q u f n, W, Γ, ρ, x, hΓ, h => by
    have row : ∀ {n : px_N} {F : rf_N} {Γ : List (Int × qx_T)} {ρ : List Int} {U L : qx_T}, (vl_tm SN C M TV AR n).2 F Γ ρ U L → qx_at L ≤ qx_at U := fun {n} => by
      induction n with
      | leaf =>
        intro F Γ ρ U L h
        rw [h.2]
        exact Nat.le_refl _
      | inner g q u f n ihf ihn =>
        intro F Γ ρ U L h
        obtain ⟨W, X, A, U', ⟨a1, a2⟩, a3, a4, a5⟩ := vl_tm_c.mp h
        have := ihn a5
        have eU : qx_at U = qx_at A + qx_at U' := by
          rw [a3]
          rfl
        omega
    rcases h with ⟨_, j, v, F, B, v1, ⟨_, _, _, v2⟩, v3, v4⟩ | ⟨_, k, i, U, h0, w1, w2, w3⟩
    · have hΓ' : ∀ p ∈ (q :: Γ), qx_at p.2 ≤ 5 := fun p hp => by
        rcases List.mem_cons.mp hp with rfl | hp
        · exact v2
        · exact hΓ p hp
      have ih := vl_tm_tb hC hM hΓ' v3
      have h2 := rf_at_sh q.2
      have h3 : rf_at (qx_sh q.2) ≤ 5 := by omega
      rw [v4]
      exact ⟨h3, ih⟩
    · have hU := vl_hd5 hC hM hΓ w1
      have h2 := rf_at_sh x
      refine wk_tb_5 ?_
      rcases w3 with ⟨k3, F, r1, r2⟩ | ⟨k3, ls, r1, _, r3, r2⟩
      · have := row r1
        omega
      · have eU : qx_at U = dz_sm (ls.map (vl_tl Γ)) + qx_at x := by rw [r3, dz_as_at]
        omega
end
/-- all sides -/
theorem vl_kc_tx {SN : Int → Int → Prop} {TV : Int → qx_T → Prop} {AR : Nat → List Int} {nC : Int} : ∀ {l : List vl_I} {C M : List (Int × qx_T)} {tl : vw_L}, ((vl_kf l C).length : Int) ≤ nC → vl_tx SN TV AR l C M tl → ∀ q ∈ tl, wk_kc nC q.1 ∧ wk_kc nC q.2
  | [], C, M, tl, _, ht => by
    have ht' : tl = [] := ht
    subst ht'
    exact fun q hq => absurd hq List.not_mem_nil
  | q :: l, C, M, tl, hn, ht => by
    rcases ht with ⟨q1, ht⟩ | ⟨q1, ht⟩ | ⟨q1, L, R, l', x, el, v1, v2, ht⟩
    · have ek : vl_kf (q :: l) C = vl_kf l (C ++ [q.1.2]) := by
        show (if q.1.1 = 3 then _ else _) = _
        rw [if_pos q1]
      rw [ek] at hn
      exact vl_kc_tx hn ht
    · have ek : vl_kf (q :: l) C = vl_kf l C := by
        show (if q.1.1 = 3 then _ else _) = _
        rw [if_neg (by omega)]
      rw [ek] at hn
      exact vl_kc_tx hn ht
    · have ek : vl_kf (q :: l) C = vl_kf l C := by
        show (if q.1.1 = 3 then _ else _) = _
        rw [if_neg (by omega)]
      rw [ek] at hn
      have ih := vl_kc_tx hn ht
      have lC : C.length ≤ (vl_kf l C).length := by
        apply Classical.byContradiction
        intro c
        have := vl_kf_at (l := l) (List.getElem?_eq_getElem (show C.length - 1 < C.length by omega))
        have := (List.getElem?_eq_some_iff.mp this).1
        omega
      have hC : (C.length : Int) ≤ nC := by omega
      subst el
      intro p hp
      rcases List.mem_cons.mp hp with rfl | hp
      · exact ⟨(vl_tm_kc hC).1 v1, (vl_tm_kc hC).1 v2⟩
      · exact ih p hp
end
