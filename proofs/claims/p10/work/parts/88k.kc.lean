/-! ===== constants are those of the text; the types of ARGs are small ===== -/
def wk_kc (n : Int) : rf_N → Prop
  | .leaf => True
  | .inner _ q _ F X => (q.1 = 1 → q.2 < n) ∧ (q.1 ≠ 3 → wk_kc n F) ∧ wk_kc n X
theorem wk_kc_el {n : Int} {A : rf_N} : ∀ {F : rf_N}, A ∈ vx_el F → wk_kc n F → wk_kc n A
  | .leaf, h, _ => absurd h List.not_mem_nil
  | .inner j q u F X, h, ⟨h1, h2, h3⟩ => by
    rcases List.mem_cons.mp h with rfl | h
    · exact ⟨h1, h2, trivial⟩
    · exact wk_kc_el h h3
theorem wk_kc_su {n : Int} {C : rf_N} : ∀ {T : rf_N}, vw_su C T → wk_kc n T → wk_kc n C
  | .leaf, h, _ => h.elim
  | .inner j q u F X, h, ⟨h1, h2, h3⟩ => by
    rcases h with h | ⟨k3, h⟩ | h
    · rw [h]
      exact ⟨h1, h2, trivial⟩
    · exact wk_kc_su h (h2 k3)
    · exact wk_kc_su h h3
theorem wk_kc_snoc {n : Int} {g : rf_N} : ∀ {f : rf_N}, wk_kc n f → wk_kc n g → wk_kc n (rf_snoc f g)
  | .leaf, _, h => h
  | .inner _ _ _ _ _, ⟨h1, h2, h3⟩, h => ⟨h1, h2, wk_kc_snoc h3 h⟩
/-- all ARGs have at most five atoms -/
def wk_tb : rf_T → Prop
  | .leaf => True
  | .inner _ _ _ A B => rf_at A ≤ 5 ∧ wk_tb B
theorem wk_tb_5 : ∀ {t : rf_T}, rf_at t ≤ 5 → wk_tb t
  | .leaf, _ => trivial
  | .inner _ _ _ A B, h => by
    have e : rf_at A + rf_at B ≤ 5 := h
    have h1 : rf_at A ≤ 5 := by omega
    exact ⟨h1, wk_tb_5 (by omega)⟩
section
variable {SN : Int → Int → Prop} {C M : List (Int × qx_T)} {TV : Int → qx_T → Prop} {AR : Nat → List Int}
theorem vl_c1_kc {n : Int} : ∀ {x : qx_T} {W : rf_N} {k h : Int} {f : rf_N} {ρ : List Int}, vl_c1 TV x W k h f ρ → wk_kc n f → (k = 1 → h < n) → wk_kc n W := by
  intro x
  induction x with
  | leaf =>
    rintro W k h f ρ ⟨j, e⟩ hf hk
    rw [e]
    exact ⟨hk, fun _ => hf, trivial⟩
  | inner z b u x y ihx ihy =>
    intro W k h f ρ hc hf hk
    rcases hc with ⟨rfl, j, e⟩ | ⟨⟨rfl, rfl⟩, j, v, g, W', e, _, h3, h4, h5⟩
    · rw [e]
      exact ⟨hk, fun _ => hf, trivial⟩
    · have a1 := ihx h4 (show wk_kc n .leaf from trivial) (fun c => absurd c (by decide))
      have b1 := ihy h5 (wk_kc_snoc hf a1) hk
      rw [e]
      exact ⟨fun c => absurd c (show ¬ (0 : Int) = 1 by decide), fun _ => b1, trivial⟩
theorem vl_c3_kc {n : Int} : ∀ {x : qx_T} {W : rf_N} {h : Int} {vs : List Int} {ρ : List Int}, vl_c3 TV AR x W h vs ρ → wk_kc n W := by
  have fin : ∀ {j : Nat} {h : Int} {F : rf_N}, wk_kc n (rf_n j 3 h F .leaf) := fun {j h F} => ⟨fun c => absurd c (show ¬ (3 : Int) = 1 by decide), fun c => absurd rfl c, trivial⟩
  intro x
  induction x with
  | leaf =>
    rintro W h vs ρ ⟨j, F, e, ea⟩
    rw [e]
    exact fin
  | inner z b u x y ihx ihy =>
    intro W h vs ρ hc
    rcases hc with ⟨rfl, j, F, e, ea⟩ | ⟨⟨rfl, rfl⟩, j, v, W', e, _, h5⟩
    · rw [e]
      exact fin
    · have b1 := ihy h5
      rw [e]
      exact ⟨fun c => absurd c (show ¬ (0 : Int) = 1 by decide), fun _ => b1, trivial⟩
theorem vl_tm_kc {nC : Int} (hC : (C.length : Int) ≤ nC) : ∀ {n : px_N}, (∀ {W : rf_N} {Γ : List (Int × qx_T)} {ρ : List Int} {x : qx_T}, (vl_tm SN C M TV AR n).1 W Γ ρ x → wk_kc nC W) ∧ (∀ {F : rf_N} {Γ : List (Int × qx_T)} {ρ : List Int} {U L : qx_T}, (vl_tm SN C M TV AR n).2 F Γ ρ U L → wk_kc nC F)
  | .leaf => ⟨fun h => h.elim, fun h => by
    have h1 := h.1
    subst h1
    trivial⟩
  | .inner g q u f n => by
    obtain ⟨f1, f2⟩ := vl_tm_kc hC (n := f)
    obtain ⟨_, n2⟩ := vl_tm_kc hC (n := n)
    have one : ∀ {W : rf_N} {Γ : List (Int × qx_T)} {ρ : List Int} {x : qx_T}, (vl_tm SN C M TV AR (.inner g q u f n)).1 W Γ ρ x → wk_kc nC W := by
      intro W Γ ρ x h
      rcases h with ⟨_, j, v, F, B, v1, _, v3, _⟩ | ⟨_, k, i, U, h0, w1, w2, w3⟩
      · rw [v1]
        exact ⟨fun c => absurd c (show ¬ (0 : Int) = 1 by decide), fun _ => f1 v3, trivial⟩
      · rcases w3 with ⟨k3, F, r1, r2⟩ | ⟨k3, ls, r1, _, r3, r2⟩
        · refine vl_c1_kc r2 (f2 r1) (fun k1 => ?_)
          rcases w1 with ⟨z, _⟩ | ⟨_, _, z⟩ | ⟨z, _⟩
          · omega
          · obtain ⟨p, q1, _⟩ := vl_cf_at z
            have := (List.getElem?_eq_some_iff.mp q1).1
            rw [w2.2 (by omega)]
            omega
          · omega
        · exact vl_c3_kc r2
    refine ⟨one, fun {F Γ ρ U L} h => ?_⟩
    obtain ⟨W, X, A, U', ⟨a1, a2⟩, a3, a4, a5⟩ := vl_tm_c.mp h
    have b1 := one a4
    have b2 := n2 a5
    obtain ⟨j, k, h', G, rfl⟩ := a1
    have es : vx_sb (rf_n j k h' G .leaf) X = rf_snoc (rf_n j k h' G .leaf) X := rfl
    rw [a2, es]
    exact wk_kc_snoc b1 b2
/-- the type of a TERM -/
theorem vl_tm_tb (hC : ∀ q ∈ C, qx_at q.2 ≤ 5) (hM : ∀ q ∈ M, qx_at q.2 ≤ 5) : ∀ {n : px_N} {W : rf_N} {Γ : List (Int × qx_T)} {ρ : List Int} {x : qx_T}, (∀ q ∈ Γ, qx_at q.2 ≤ 5) → (vl_tm SN C M TV AR n).1 W Γ ρ x → wk_tb (qx_sh x)
  | .leaf, _, _, _, _, _, h => h.elim
  | .inner g q u f n, W, Γ, ρ, x, hΓ, h => by
    have row : ∀ {n : px_N} {F : rf_N} {Γ : List (Int × qx_T)} {ρ : List Int} {U L : qx_T}, (vl_tm SN C M TV AR n).2 F Γ ρ U L → qx_at L ≤ qx_at U := fun {n} => by
      induction n with
      | leaf =>
        intro F Γ ρ U L h
        rw [h.2]
        exact Nat.le_refl _
      | inner g q u f n ihf ihn =>
        intro F Γ ρ U L h
        obtain ⟨W, X, A, U', ⟨a1, a2⟩, a3, a4, a5⟩ := vl_tm_c.mp h
        have := ihn a5
        have eU : qx_at U = qx_at A + qx_at U' := by
          rw [a3]
          rfl
        omega
    rcases h with ⟨_, j, v, F, B, v1, ⟨_, _, _, v2⟩, v3, v4⟩ | ⟨_, k, i, U, h0, w1, w2, w3⟩
    · have hΓ' : ∀ p ∈ (q :: Γ), qx_at p.2 ≤ 5 := fun p hp => by
        rcases List.mem_cons.mp hp with rfl | hp
        · exact v2
        · exact hΓ p hp
      have ih := vl_tm_tb hC hM hΓ' v3
      have h2 := rf_at_sh q.2
      have h3 : rf_at (qx_sh q.2) ≤ 5 := by omega
      rw [v4]
      exact ⟨h3, ih⟩
    · have hU := vl_hd5 hC hM hΓ w1
      have h2 := rf_at_sh x
      refine wk_tb_5 ?_
      rcases w3 with ⟨k3, F, r1, r2⟩ | ⟨k3, ls, r1, _, r3, r2⟩
      · have := row r1
        omega
      · have eU : qx_at U = dz_sm (ls.map (vl_tl Γ)) + qx_at x := by rw [r3, dz_as_at]
        omega
end
/-- all sides -/
theorem vl_kc_tx {SN : Int → Int → Prop} {TV : Int → qx_T → Prop} {AR : Nat → List Int} {nC : Int} : ∀ {l : List vl_I} {C M : List (Int × qx_T)} {tl : vw_L}, ((vl_kf l C).length : Int) ≤ nC → vl_tx SN TV AR l C M tl → ∀ q ∈ tl, wk_kc nC q.1 ∧ wk_kc nC q.2
  | [], C, M, tl, _, ht => by
    have ht' : tl = [] := ht
    subst ht'
    exact fun q hq => absurd hq List.not_mem_nil
  | q :: l, C, M, tl, hn, ht => by
    rcases ht with ⟨q1, ht⟩ | ⟨q1, ht⟩ | ⟨q1, L, R, l', x, el, v1, v2, ht⟩
    · have ek : vl_kf (q :: l) C = vl_kf l (C ++ [q.1.2]) := by
        show (if q.1.1 = 3 then _ else _) = _
        rw [if_pos q1]
      rw [ek] at hn
      exact vl_kc_tx hn ht
    · have ek : vl_kf (q :: l) C = vl_kf l C := by
        show (if q.1.1 = 3 then _ else _) = _
        rw [if_neg (by omega)]
      rw [ek] at hn
      exact vl_kc_tx hn ht
    · have ek : vl_kf (q :: l) C = vl_kf l C := by
        show (if q.1.1 = 3 then _ else _) = _
        rw [if_neg (by omega)]
      rw [ek] at hn
      have ih := vl_kc_tx hn ht
      have lC : C.length ≤ (vl_kf l C).length := by
        apply Classical.byContradiction
        intro c
        have := vl_kf_at (l := l) (List.getElem?_eq_getElem (show C.length - 1 < C.length by omega))
        have := (List.getElem?_eq_some_iff.mp this).1
        omega
      have hC : (C.length : Int) ≤ nC := by omega
      subst el
      intro p hp
      rcases List.mem_cons.mp hp with rfl | hp
      · exact ⟨(vl_tm_kc hC).1 v1, (vl_tm_kc hC).1 v2⟩
      · exact ih p hp
