/-! ===== the writer's pile: the ARGs on a way down ===== -/
def vx_ha : rf_N → Nat
  | .leaf => 0
  | .inner _ q _ F X => max (if q.1 = 3 then 0 else if q.1 = 0 then vx_ha F else vx_ha F + rf_len F) (vx_ha X)
theorem vx_ha_in (j : Nat) (q : Int × Int) (u : Unit) (F X : rf_N) : vx_ha (.inner j q u F X) = max (if q.1 = 3 then 0 else if q.1 = 0 then vx_ha F else vx_ha F + rf_len F) (vx_ha X) := rfl
theorem vx_ha_lam {j : Nat} {x : Int} {F : rf_N} : vx_ha (rf_n j 0 x F .leaf) = vx_ha F := by
  rw [vx_ha_in, if_neg vx_03, if_pos rfl]
  exact Nat.max_eq_left (Nat.zero_le _)
theorem vx_ha_rig {j : Nat} {k h : Int} {F : rf_N} (h0 : k ≠ 0) (h3 : k ≠ 3) : vx_ha (rf_n j k h F .leaf) = vx_ha F + rf_len F := by
  rw [vx_ha_in, if_neg h3, if_neg h0]
  exact Nat.max_eq_left (Nat.zero_le _)
theorem vx_ha_call {j : Nat} {m : Int} {F : rf_N} : vx_ha (rf_n j 3 m F .leaf) = 0 := by
  rw [vx_ha_in, if_pos rfl]
  rfl
theorem vx_ha_el {A : rf_N} : ∀ {F : rf_N}, A ∈ vx_el F → vx_ha A ≤ vx_ha F
  | .leaf, h => absurd h List.not_mem_nil
  | .inner j q u F X, h => by
    rw [vx_ha_in]
    rcases List.mem_cons.mp h with rfl | h
    · rw [vx_ha_in]
      have e1 : vx_ha .leaf = 0 := rfl
      rw [e1]
      omega
    · have := vx_ha_el h
      omega
theorem vx_ha_snoc {g : rf_N} : ∀ {f : rf_N}, vx_ha (rf_snoc f g) = max (vx_ha f) (vx_ha g)
  | .leaf => (Nat.max_eq_right (Nat.zero_le _)).symm
  | .inner j q u F X => by
    have i1 := vx_ha_snoc (g := g) (f := X)
    show vx_ha (.inner j q () F (rf_snoc X g)) = _
    rw [vx_ha_in, vx_ha_in, i1]
    omega
/-- a part of a term -/
theorem vx_ha_su {C : rf_N} : ∀ {T : rf_N}, vw_su C T → vx_ha C ≤ vx_ha T
  | .leaf, h => h.elim
  | .inner j q u F X, h => by
    rw [vx_ha_in]
    rcases h with h | ⟨h3, h⟩ | h
    · rw [h, vx_ha_in]
      have e1 : vx_ha .leaf = 0 := rfl
      rw [e1]
      omega
    · have := vx_ha_su h
      rw [if_neg h3]
      by_cases c : q.1 = 0
      · rw [if_pos c]
        omega
      · rw [if_neg c]
        omega
    · have := vx_ha_su h
      omega
section
variable {SN : Int → Int → Prop} {C M : List (Int × qx_T)} {TV : Int → qx_T → Prop} {AR : Nat → List Int} {K : Nat → Int}
theorem vl_c1_ha : ∀ {x : qx_T} {W : rf_N} {k h : Int} {f : rf_N} {ρ : List Int}, vl_c1 TV x W k h f ρ → k ≠ 0 → k ≠ 3 → vx_ha W + 1 ≤ vx_ha f + rf_len f + qx_at x := by
  intro x
  induction x with
  | leaf =>
    rintro W k h f ρ ⟨j, e⟩ k0 k3
    rw [e, vx_ha_rig k0 k3]
    exact Nat.le_refl _
  | inner n b u x y ihx ihy =>
    intro W k h f ρ hc k0 k3
    rcases hc with ⟨rfl, j, e⟩ | ⟨⟨rfl, rfl⟩, j, v, g, W', e, _, h3, h4, h5⟩
    · rw [e, vx_ha_rig k0 k3]
      exact Nat.le_refl _
    · have a1 := ihx h4 (by decide) (by decide)
      have b1 := ihy h5 k0 k3
      have ea : qx_at (.inner 0 false u x y) = qx_at x + qx_at y := rfl
      have z1 : vx_ha .leaf = 0 := rfl
      have z2 : rf_len .leaf = 0 := rfl
      have z3 : rf_len g = 1 := by
        obtain ⟨j', k', h', G, rfl⟩ := h3
        rfl
      rw [vx_ha_snoc, rf_len_snoc, z3] at b1
      rw [z1, z2] at a1
      rw [e, vx_ha_lam, ea]
      omega
theorem vl_c3_ha : ∀ {x : qx_T} {W : rf_N} {h : Int} {vs : List Int} {ρ : List Int}, vl_c3 TV AR x W h vs ρ → vx_ha W = 0 := by
  intro x
  induction x with
  | leaf =>
    rintro W h vs ρ ⟨j, F, e, ea⟩
    rw [e, vx_ha_call]
  | inner n b u x y ihx ihy =>
    intro W h vs ρ hc
    rcases hc with ⟨rfl, j, F, e, ea⟩ | ⟨⟨rfl, rfl⟩, j, v, W', e, _, h5⟩
    · rw [e, vx_ha_call]
    · rw [e, vx_ha_lam]
      exact ihy h5
theorem vl_ha_row {f : Nat} {Γ : List (Int × qx_T)} {ρ : List Int} (hT : ∀ {a c : Int} {t : px_N} {W : rf_N} {x : qx_T}, px_TM K f a t c → (vl_tm SN C M TV AR t).1 W Γ ρ x → vx_ha W ≤ 4 * f) : ∀ {r : px_N} {a c : Int} {F : rf_N} {U L : qx_T}, vl_row K (px_TM K f) r a c → (vl_tm SN C M TV AR r).2 F Γ ρ U L → rf_len F + qx_at L ≤ qx_at U ∧ (vx_ha F ≤ 4 * f ∨ vx_ha F + rf_len F + qx_at L ≤ qx_at U)
  | .leaf, a, c, F, U, L, h, ⟨h1, h2⟩ => by
    subst h1 h2
    have z1 : vx_ha .leaf = 0 := rfl
    have z2 : rf_len .leaf = 0 := rfl
    rw [z1, z2]
    exact ⟨by omega, Or.inl (Nat.zero_le _)⟩
  | .inner g q u p n, a, c, F, U, L, ⟨e, h1, h2⟩, hv => by
    obtain ⟨W, X, A, U', ⟨a1, a2⟩, a3, a4, a5⟩ := vl_tm_c.mp hv
    have eU : qx_at U = qx_at A + qx_at U' := by
      rw [a3]
      rfl
    have pA := qx_at_pos A
    have hE : vx_ha W ≤ 4 * f ∨ vx_ha W + 1 ≤ qx_at A := by
      rcases h1 with ⟨k1, e', k2, k3, k4⟩ | ⟨k1, g1, f1, k4⟩
      · exact Or.inl (hT k2 a4)
      · subst g1 f1
        rcases a4 with ⟨g0, _⟩ | ⟨_, k, i, U2, h0, w1, _, w3⟩
        · exact absurd g0 (by decide)
        · have k0 : k ≠ 0 := by
            rcases w1 with ⟨z, _⟩ | ⟨z, _⟩ | ⟨z, _⟩ <;> omega
          rcases w3 with ⟨k3, G, ⟨r0, r1⟩, r2⟩ | ⟨k3, ls, r1, _, _, r2⟩
          · subst r0
            have := vl_c1_ha r2 k0 k3
            have z1 : vx_ha .leaf = 0 := rfl
            have z2 : rf_len .leaf = 0 := rfl
            rw [z1, z2] at this
            exact Or.inr (by omega)
          · have := vl_c3_ha r2
            exact Or.inr (by omega)
    obtain ⟨r1, r2⟩ := vl_ha_row hT h2 a5
    have sn : vx_ha (vx_sb W X) = max (vx_ha W) (vx_ha X) ∧ rf_len (vx_sb W X) = rf_len X + 1 := by
      obtain ⟨j, k, h, G, rfl⟩ := a1
      have es : vx_sb (rf_n j k h G .leaf) X = rf_snoc (rf_n j k h G .leaf) X := rfl
      rw [es]
      exact ⟨vx_ha_snoc, rfl⟩
    obtain ⟨sn1, sn2⟩ := sn
    subst a2
    rw [sn1, sn2]
    refine ⟨by omega, ?_⟩
    rcases hE with hE | hE
    · rcases r2 with r2 | r2
      · exact Or.inl (by omega)
      · by_cases c : vx_ha X ≤ vx_ha W
        · exact Or.inl (by omega)
        · exact Or.inr (by omega)
    · rcases r2 with r2 | r2
      · by_cases c : vx_ha X ≤ vx_ha W
        · exact Or.inr (by omega)
        · exact Or.inl (by omega)
      · exact Or.inr (by omega)
theorem vl_ha_tm (hC : ∀ q ∈ C, qx_at q.2 ≤ 5) (hM : ∀ q ∈ M, qx_at q.2 ≤ 5) : ∀ {f : Nat} {Γ : List (Int × qx_T)} {ρ : List Int} {a c : Int} {t : px_N} {W : rf_N} {x : qx_T}, (∀ q ∈ Γ, qx_at q.2 ≤ 5) → px_TM K f a t c → (vl_tm SN C M TV AR t).1 W Γ ρ x → vx_ha W ≤ 4 * f
  | 0, _, _, _, _, _, _, _, _, h, _ => h.elim
  | f + 1, Γ, ρ, a, c, t, W, x, hΓ, h, hv => by
    rcases h with ⟨k1, k2, k3, y, e, h1, k4, u, h2, ht⟩ | ⟨k1, r, ⟨g, h1⟩, ht⟩
    · subst ht
      rcases hv with ⟨_, j, v, F, B, v1, ⟨_, _, _, v2⟩, v3, v4⟩ | ⟨g0, _⟩
      · have hΓ' : ∀ q ∈ ((a + 1, y) :: Γ), qx_at q.2 ≤ 5 := fun q hq => by
          rcases List.mem_cons.mp hq with rfl | hq
          · exact v2
          · exact hΓ q hq
        have := vl_ha_tm hC hM hΓ' h2 v3
        rw [v1, vx_ha_lam]
        omega
      · exact absurd rfl g0
    · subst ht
      obtain ⟨r2, er, hr⟩ := vl_ARg_row (fun _ _ _ => px_TM_one) h1
      have er' : r = r2 := er
      subst er'
      rcases hv with ⟨g0, _⟩ | ⟨_, k, i, U, h0, w1, _, w3⟩
      · exact absurd g0 (by decide)
      · have hU := vl_hd5 hC hM hΓ w1
        have k0 : k ≠ 0 := by
          rcases w1 with ⟨z, _⟩ | ⟨z, _⟩ | ⟨z, _⟩ <;> omega
        rcases w3 with ⟨k3, F, r1, r2⟩ | ⟨k3, ls, r1, _, r3, r2⟩
        · have c1 := vl_c1_ha r2 k0 k3
          obtain ⟨q1, q2⟩ := vl_ha_row (fun ht' hv' => vl_ha_tm hC hM hΓ ht' hv') hr r1
          omega
        · have := vl_c3_ha r2
          omega
end
/-- both sides of each equation -/
theorem vl_ha_tx {SN : Int → Int → Prop} {TV : Int → qx_T → Prop} {AR : Nat → List Int} {K : Nat → Int} : ∀ {l : List vl_I} {a : Int} {C M : List (Int × qx_T)} {e0 : Nat} {tl : vw_L}, vl_TX K l a → px_ck SN l C M e0 → vl_tx SN TV AR l C M tl → (∀ q ∈ C, qx_at q.2 ≤ 5) → (∀ q ∈ M, qx_at q.2 ≤ 5) → ∀ q ∈ tl, vx_ha q.1 ≤ 84 ∧ vx_ha q.2 ≤ 84
  | [], a, C, M, e0, tl, h, _, ht, _, _ => by
    have ht' : tl = [] := ht
    subst ht'
    exact fun q hq => absurd hq List.not_mem_nil
  | q :: l, a, C, M, e0, tl, ⟨c, hi, hx⟩, hck, ht, hC, hM => by
    rcases hi with ⟨k1, k2, k3, x, e, h1, k4, k5, hq⟩ | ⟨k1, t, e, u, g, h1, k2, h2, k3, k4, hq⟩
    · have q1 : q.1.1 = 3 ∨ q.1.1 = 4 := by rw [hq]; exact k1
      rcases hck with ⟨_, _, _, _, c5, c6⟩ | ⟨_, _, _, _, c5, c6⟩ | ⟨z, _⟩
      · rcases ht with ⟨_, ht⟩ | ⟨z, _⟩ | ⟨z, _⟩
        · exact vl_ha_tx hx c6 ht (fun p hp' => by
            rcases List.mem_append.mp hp' with hp' | hp'
            · exact hC p hp'
            · rw [List.mem_singleton.mp hp']
              exact c5) hM
        · omega
        · omega
      · rcases ht with ⟨z, _⟩ | ⟨_, ht⟩ | ⟨z, _⟩
        · omega
        · exact vl_ha_tx hx c6 ht hC (fun p hp' => by
            rcases List.mem_append.mp hp' with hp' | hp'
            · exact hM p hp'
            · rw [List.mem_singleton.mp hp']
              exact c5)
        · omega
      · omega
    · have q1 : q.1.1 = 5 := by rw [hq]
      have q2 : q.2.1 = t ∧ q.2.2 = u := by rw [hq]; exact ⟨rfl, rfl⟩
      rcases hck with ⟨z, _⟩ | ⟨z, _⟩ | ⟨_, c2, _, c4⟩
      · omega
      · omega
      · rcases ht with ⟨z, _⟩ | ⟨z, _⟩ | ⟨_, L, R, l', x, el, v1, v2, ht⟩
        · omega
        · omega
        · rw [q2.1] at v1
          rw [q2.2] at v2
          have b1 := vl_ha_tm hC hM (Γ := []) (fun _ h => absurd h List.not_mem_nil) h1 v1
          have b2 := vl_ha_tm hC hM (Γ := []) (fun _ h => absurd h List.not_mem_nil) h2 v2
          have ih := vl_ha_tx hx c4 ht hC hM
          subst el
          intro p hp
          rcases List.mem_cons.mp hp with rfl | hp
          · exact ⟨b1, b2⟩
          · exact ih p hp
