/-! ===== long forms against the bytes of the text ===== -/
def vl_TC (AR : Nat → List Int) (D : List Int) (P : Nat → Nat) (f : Nat) (a c : Int) (x : qx_T) (W : rf_N) : Prop := True → (vx_lh W ≤ 4 + 3 * f ∧ (qx_at x ≤ 4 → vx_lh W ≤ 3 + 3 * f) ∧ vx_hh W ≤ f + 4) ∧ (∀ ls, vl_w AR D W ls + P a.toNat ≤ P c.toNat + 3) ∧ (vw_np W + P a.toNat ≤ P c.toNat + 4 ∧ (qx_at x ≤ 4 → vw_np W + P a.toNat ≤ P c.toNat + qx_at x + 1) ∧ (qx_at x = 4 → vw_np W + P a.toNat ≤ P c.toNat + qx_at x)) ∧ ∀ (i : Nat) (kk hh : Int) (G : rf_N), kk ≠ 0 → kk ≠ 3 → vw_su (rf_n i kk hh G .leaf) W → (∀ m ∈ D, ¬ vx_mt m (rf_n i kk hh G .leaf)) → ∀ ls, vl_w AR D W ls + vw_np (rf_n i kk hh G .leaf) + P a.toNat ≤ P c.toNat + 5
/-- one ARG -/
def vl_AC (K : Nat → Int) (AR : Nat → List Int) (D : List Int) (P : Nat → Nat) (f : Nat) (a c : Int) (x : qx_T) (W : rf_N) : Prop := True → (a + 1 ≤ c ∧ P a.toNat + 1 ≤ P c.toNat) ∧ (vx_lh W ≤ 3 + 3 * f ∧ vx_hh W ≤ f + 4) ∧ vl_w AR D W [] + P a.toNat ≤ P c.toNat + 1 ∧ (vw_np W + P a.toNat + 1 ≤ P c.toNat + qx_at x ∧ (K a.toNat ≠ 2 → qx_at x = 4 → vw_np W + P a.toNat + 2 ≤ P c.toNat + 4)) ∧ ∀ (i : Nat) (kk hh : Int) (G : rf_N), kk ≠ 0 → kk ≠ 3 → vw_su (rf_n i kk hh G .leaf) W → (∀ m ∈ D, ¬ vx_mt m (rf_n i kk hh G .leaf)) → vl_w AR D W [] + vw_np (rf_n i kk hh G .leaf) + P a.toNat ≤ P c.toNat + 3
/-- a row of n ARGs -/
def vl_RC (K : Nat → Int) (AR : Nat → List Int) (D : List Int) (P : Nat → Nat) (f : Nat) (a c : Int) (U L : qx_T) (F : rf_N) (n : Nat) : Prop := True → (a ≤ c ∧ P a.toNat + n ≤ P c.toNat ∧ n + qx_at L ≤ qx_at U ∧ (n = 0 → qx_at U = qx_at L)) ∧ (vx_lh F ≤ 3 + 3 * f ∧ vx_hh F ≤ f + 4) ∧ vl_w AR D F [] + P a.toNat ≤ P c.toNat + n ∧ (vw_np F + P a.toNat + n + qx_at L ≤ P c.toNat + qx_at U ∧ (n = 1 → K a.toNat ≠ 2 → qx_at U = 4 + qx_at L → vw_np F + P a.toNat + 2 ≤ P c.toNat + 4)) ∧ ∀ (i : Nat) (kk hh : Int) (G : rf_N), kk ≠ 0 → kk ≠ 3 → vw_su (rf_n i kk hh G .leaf) F → (∀ m ∈ D, ¬ vx_mt m (rf_n i kk hh G .leaf)) → vl_w AR D F [] + vw_np (rf_n i kk hh G .leaf) + P a.toNat + 1 ≤ P c.toNat + n + 3
section
variable {SN : Int → Int → Prop} {C M : List (Int × qx_T)} {TV : Int → qx_T → Prop} {AR : Nat → List Int} {D : List Int} {K : Nat → Int} {P : Nat → Nat}
theorem vl_hd5 {Γ : List (Int × qx_T)} {a k : Int} {i : Nat} {U : qx_T} (hC : ∀ q ∈ C, qx_at q.2 ≤ 5) (hM : ∀ q ∈ M, qx_at q.2 ≤ 5) (hΓ : ∀ q ∈ Γ, qx_at q.2 ≤ 5) (h : px_hd SN C M Γ a k i U) : qx_at U ≤ 5 := by
  rcases h with ⟨_, h⟩ | ⟨_, _, h⟩ | ⟨_, _, _, h⟩
  · have h1 := vl_vr_tl h
    have h2 := px_vr_lt h
    rw [← h1]
    unfold vl_tl
    rw [List.getElem?_eq_getElem (by omega)]
    exact hΓ _ (List.getElem_mem _)
  · obtain ⟨q, q1, q2⟩ := vl_cf_at h
    rw [← q2]
    exact hC q (List.mem_of_getElem? q1)
  · obtain ⟨q, q1, q2⟩ := vl_cf_at h
    rw [← q2]
    exact hM q (List.mem_of_getElem? q1)
/-- a NAME alone as an ARG -/
theorem vl_name (hD : D.Nodup) (hP : vl_P K P) {f : Nat} {a e : Int} {q : Int × qx_T} {u : Unit} {n : px_N} {W : rf_N} {Γ : List (Int × qx_T)} {ρ : List Int} {A : qx_T} (ha : 0 ≤ a) (hk : K a.toNat = 2) (he : e = a + 1) (hA : qx_at A ≤ 4) (h : (vl_tm SN C M TV AR (.inner 1 q u .leaf n)).1 W Γ ρ A) : vl_AC K AR D P f a e A W := fun _ => by
  have j1 := vl_P1 hP ha hk (by decide) he
  have pA := qx_at_pos A
  rcases h with ⟨g0, _⟩ | ⟨_, k, i, U, h0, h1, _, h3⟩
  · exact absurd g0 (by decide)
  · have k0 : k ≠ 0 := by
      rcases h1 with ⟨z, _⟩ | ⟨z, _⟩ | ⟨z, _⟩ <;> omega
    rcases h3 with ⟨k3, F, ⟨r0, r1⟩, r2⟩ | ⟨k3, ls, r1, _, _, r2⟩
    · subst r0
      obtain ⟨c1, c2, c3, c4, c5⟩ := vl_c1_ct (AR := AR) (D := D) r2 k0 k3
      have z1 : vw_np .leaf = 0 := rfl
      have z2 : vx_lh .leaf = 0 := rfl
      have z3 : vx_hh .leaf = 0 := rfl
      have w0 := c1 []
      rw [vl_w_leaf] at w0
      refine ⟨⟨by omega, j1⟩, ⟨by omega, by omega⟩, by omega, ⟨by omega, fun z _ => absurd hk z⟩, fun i kk hh G kk0 kk3 hs _ => ?_⟩
      rcases c5 i kk hh G kk0 hs with ⟨d1, _⟩ | d | d
      · omega
      · exact d.elim
      · omega
    · have el : ls = [] := r1
      subst el
      obtain ⟨c1, c2, c3, c4, c5⟩ := vl_c3_ct (AR := AR) (D := D) hD r2
      have w0 := (c1 []).2 rfl
      refine ⟨⟨by omega, j1⟩, ⟨by omega, by omega⟩, by omega, ⟨by omega, fun z _ => absurd hk z⟩, fun i kk hh G kk0 kk3 hs _ => absurd hs (c5 i kk hh G kk0 kk3)⟩
theorem vl_rowC (hD : D.Nodup) (hP : vl_P K P) {f : Nat} {Γ : List (Int × qx_T)} {ρ : List Int} (hT : ∀ {a c : Int} {t : px_N} {W : rf_N} {x : qx_T}, 0 ≤ a → px_TM K f a t c → (vl_tm SN C M TV AR t).1 W Γ ρ x → vl_TC AR D P f a c x W) : ∀ {r : px_N} {a c : Int} {F : rf_N} {U L : qx_T}, 0 ≤ a → qx_at U ≤ 5 → vl_row K (px_TM K f) r a c → (vl_tm SN C M TV AR r).2 F Γ ρ U L → ∃ n, vl_RC K AR D P f a c U L F n
  | .leaf, a, c, F, U, L, ha, hU, h, ⟨h1, h2⟩ => by
    have h' : a = c := h
    subst h' h1 h2
    have z1 : vw_np .leaf = 0 := rfl
    have z2 : vx_lh .leaf = 0 := rfl
    have z3 : vx_hh .leaf = 0 := rfl
    refine ⟨0, fun _ => ⟨⟨Int.le_refl _, Nat.le_refl _, by omega, fun _ => rfl⟩, ⟨by omega, by omega⟩, by rw [vl_w_leaf]; omega, ⟨by omega, fun z => by omega⟩, fun i kk hh G _ _ hs => hs.elim⟩⟩
  | .inner g q u p n, a, c, F, U, L, ha, hU, ⟨e, h1, h2⟩, hv => by
    obtain ⟨W, X, A, U', ⟨a1, a2⟩, a3, a4, a5⟩ := vl_tm_c.mp hv
    have eU : qx_at U = qx_at A + qx_at U' := by
      rw [a3]
      rfl
    have pU := qx_at_pos U'
    have hA : qx_at A ≤ 4 := by omega
    have hE : vl_AC K AR D P f a e A W := by
      rcases h1 with ⟨k1, e', k2, k3, k4⟩ | ⟨k1, g1, f1, k4⟩
      · obtain ⟨i1, i2⟩ := px_TM_P hP (by omega) k2
        have j1 := vl_P1 hP ha k1 (by decide) (b := a + 1) rfl
        have j2 := vl_P1 hP (a := e') (by omega) k3 (by decide) k4
        obtain ⟨⟨t1, t2, t3⟩, t4, ⟨_, t5, t6⟩, t7⟩ := hT (by omega) k2 a4 trivial
        have t4' := t4 []
        have t5' := t5 hA
        refine fun _ => ⟨⟨by omega, by omega⟩, ⟨t2 hA, t3⟩, by omega, ⟨by omega, fun _ z => by have := t6 z; omega⟩, fun i kk hh G kk0 kk3 hs hm => ?_⟩
        have := t7 i kk hh G kk0 kk3 hs hm []
        omega
      · subst g1 f1
        exact vl_name hD hP ha k1 k4 hA a4
    obtain ⟨⟨e1, e2⟩, ⟨e3, e4⟩, e5, ⟨e6, e7⟩, e8⟩ := hE trivial
    obtain ⟨n', hR⟩ := vl_rowC hD hP hT (by omega) (by omega) h2 a5
    obtain ⟨⟨r1, r2, r3, r3'⟩, ⟨r4, r5⟩, r6, ⟨r7, r8⟩, r9⟩ := hR trivial
    have pA := qx_at_pos A
    have sw := vl_w_sb (AR := AR) (D := D) (X := X) a1
    have sn : vw_np (vx_sb W X) = vw_np W + vw_np X ∧ vx_lh (vx_sb W X) = max (vx_lh W) (vx_lh X) ∧ vx_hh (vx_sb W X) = max (vx_hh W) (vx_hh X) ∧ ∀ Z, vw_su Z (vx_sb W X) → vw_su Z W ∨ vw_su Z X := by
      obtain ⟨j, k, h, G, rfl⟩ := a1
      have es : vx_sb (rf_n j k h G .leaf) X = rf_snoc (rf_n j k h G .leaf) X := rfl
      rw [es]
      exact ⟨vw_np_snoc, vx_lh_snoc.1, vx_lh_snoc.2, fun Z hz => vw_su_snoc hz⟩
    obtain ⟨sn1, sn2, sn3, sn4⟩ := sn
    subst a2
    refine ⟨n' + 1, fun _ => ⟨⟨by omega, by omega, by omega, fun z => by omega⟩, ⟨by omega, by omega⟩, by omega, ⟨by omega, fun z1 z2 z3 => ?_⟩, fun i kk hh G kk0 kk3 hs hm => ?_⟩⟩
    · obtain rfl : n' = 0 := by omega
      by_cases q4 : qx_at A = 4
      · have := e7 z2 q4
        omega
      · omega
    · rcases sn4 _ hs with hs | hs
      · have := e8 i kk hh G kk0 kk3 hs hm
        omega
      · have := r9 i kk hh G kk0 kk3 hs hm
        omega
theorem vl_bytes (hD : D.Nodup) (hP : vl_P K P) (hC : ∀ q ∈ C, qx_at q.2 ≤ 5) (hM : ∀ q ∈ M, qx_at q.2 ≤ 5) : ∀ {f : Nat} {Γ : List (Int × qx_T)} {ρ : List Int} {a c : Int} {t : px_N} {W : rf_N} {x : qx_T}, (∀ q ∈ Γ, qx_at q.2 ≤ 5) → 0 ≤ a → px_TM K f a t c → (vl_tm SN C M TV AR t).1 W Γ ρ x → vl_TC AR D P f a c x W
  | 0, _, _, _, _, _, _, _, _, _, h, _ => h.elim
  | f + 1, Γ, ρ, a, c, t, W, x, hΓ, ha, h, hv => fun _ => by
    rcases h with ⟨k1, k2, k3, y, e, h1, k4, u, h2, ht⟩ | ⟨k1, r, ⟨g, h1⟩, ht⟩
    · subst ht
      rcases hv with ⟨_, j, v, F, B, v1, ⟨_, _, _, v2⟩, v3, v4⟩ | ⟨g0, _⟩
      · have hΓ' : ∀ q ∈ ((a + 1, y) :: Γ), qx_at q.2 ≤ 5 := fun q hq => by
          rcases List.mem_cons.mp hq with rfl | hq
          · exact v2
          · exact hΓ q hq
        have j1 := vl_P1 hP ha k1 (by decide) (b := a + 1) rfl
        have j2 := vl_P1 hP (a := a + 1) (by omega) k2 (by decide) (b := a + 2) (by omega)
        have j3 := vl_P1 hP (a := a + 2) (by omega) k3 (by decide) (b := a + 3) (by omega)
        obtain ⟨t1, t2⟩ := px_TY_P hP (by omega) h1
        have j4 := vl_P1 hP (a := e) (by omega) k4 (by decide) (b := e + 1) rfl
        obtain ⟨⟨b1, b2, b3⟩, b4, ⟨b5, b6, b7⟩, b8⟩ := vl_bytes hD hP hC hM hΓ' (by omega) h2 v3 trivial
        have ex : qx_at x = qx_at y + qx_at B := by
          rw [v4]
          rfl
        have py := qx_at_pos y
        obtain ⟨l1, l2⟩ := vx_lh_lam (j := j) (x := v) (F := F)
        subst v1
        rw [vw_np_lam]
        refine ⟨⟨by omega, fun z => by have := b2 (by omega); omega, by omega⟩, fun ls => by rw [vl_w_lam]; have := b4 (v :: ls); omega, ⟨by omega, fun z => by have := b6 (by omega); omega, fun z => by have := b6 (by omega); omega⟩, fun i kk hh G kk0 kk3 hs hm ls => ?_⟩
        rw [vl_w_lam]
        rcases hs with hs | ⟨_, hs⟩ | hs
        · injection hs with _ hs2
          exact absurd (Prod.mk.inj hs2).1 kk0
        · have := b8 i kk hh G kk0 kk3 hs hm (v :: ls)
          omega
        · exact hs.elim
      · exact absurd rfl g0
    · subst ht
      obtain ⟨r2, er, hr⟩ := vl_ARg_row (fun _ _ _ => px_TM_one) h1
      have er' : r = r2 := er
      subst er'
      have j1 := vl_P1 hP ha k1 (by decide) (b := a + 1) rfl
      rcases hv with ⟨g0, _⟩ | ⟨_, k, i, U, h0, w1, _, w3⟩
      · exact absurd g0 (by decide)
      · have hU := vl_hd5 hC hM hΓ w1
        have k0 : k ≠ 0 := by
          rcases w1 with ⟨z, _⟩ | ⟨z, _⟩ | ⟨z, _⟩ <;> omega
        have px := qx_at_pos x
        rcases w3 with ⟨k3, F, r1, r2⟩ | ⟨k3, ls, r1, _, r3, r2⟩
        · obtain ⟨c1, c2, c3, c4, c5⟩ := vl_c1_ct (AR := AR) (D := D) r2 k0 k3
          obtain ⟨n, hR⟩ := vl_rowC hD hP (fun ha' ht' hv' => vl_bytes hD hP hC hM hΓ ha' ht' hv') (by omega) hU hr r1
          obtain ⟨⟨q1, q2, q3, q3'⟩, ⟨q4, q5⟩, q6, ⟨q7, q8⟩, q9⟩ := hR trivial
          have nb : vw_np F + P a.toNat ≤ P c.toNat + 1 := by
            by_cases n1 : n = 1
            · by_cases u4 : qx_at U = 4 + qx_at x
              · by_cases kn : K (a + 1).toNat = 2
                · have := hP.2 a.toNat k1 (by rw [← show (a + 1).toNat = a.toNat + 1 by omega]; exact kn)
                  rw [← show (a + 1).toNat = a.toNat + 1 by omega] at this
                  omega
                · have := q8 n1 kn u4
                  omega
              · omega
            · by_cases n0 : n = 0
              · omega
              · omega
          refine ⟨⟨by omega, fun _ => by omega, by omega⟩, fun ls => by rw [c1 ls]; omega, ⟨by omega, fun _ => by omega, fun z => by omega⟩, fun i kk hh G kk0 kk3 hs hm ls => ?_⟩
          rw [c1 ls]
          rcases c5 i kk hh G kk0 hs with ⟨d1, d2⟩ | d | d
          · have w0 : vl_w AR D F [] = 0 := vl_w_0 (fun m hm' hf => hm m hm' (d2 m hf))
            omega
          · have := q9 i kk hh G kk0 kk3 d hm
            omega
          · omega
        · obtain ⟨c1, c2, c3, c4, c5⟩ := vl_c3_ct (AR := AR) (D := D) hD r2
          have eU : qx_at U = dz_sm (ls.map (vl_tl Γ)) + qx_at x := by rw [r3, dz_as_at]
          obtain ⟨p1, p2, p3⟩ := vl_row_P hP (fun a t e ha h => px_TM_P hP ha h) (by omega) hr
          have hw : ∀ l, vl_w AR D W l + P a.toNat ≤ P c.toNat + 3 := fun l => by
            by_cases rl : r = .leaf
            · subst rl
              have el : ls = [] := r1
              subst el
              have := (c1 l).2 rfl
              omega
            · obtain ⟨p4, p5⟩ := p3 rl
              have := (c1 l).1
              by_cases kn : K (a + 1).toNat = 2
              · have z := hP.2 a.toNat k1 (by rw [← show (a + 1).toNat = a.toNat + 1 by omega]; exact kn)
                rw [← show (a + 1).toNat = a.toNat + 1 by omega] at z
                omega
              · have := p5 kn
                omega
          exact ⟨⟨by omega, fun _ => by omega, by omega⟩, hw, ⟨by omega, fun _ => by omega, fun z => by omega⟩, fun i kk hh G kk0 kk3 hs => absurd hs (c5 i kk hh G kk0 kk3)⟩
end
