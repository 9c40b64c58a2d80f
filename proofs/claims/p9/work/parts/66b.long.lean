/-! ===== what a long form is: types, free variables, unknowns ===== -/
/-- a row takes the type u down to w -/
def vl_rw (tv tc : Int → rf_T) (tm : Int → Int → rf_T) (AR : Nat → List Int) : rf_N → rf_T → rf_T → Prop
  | .leaf, u, w => u = w
  | .inner j q _ F X, u, w => ∃ A B, u = rf_a A B ∧ (vx_ty tv tc tm AR (.inner j q () F .leaf)).1 A ∧ vl_rw tv tc tm AR X B w
theorem vl_el_snoc {g : rf_N} : ∀ {f : rf_N}, vx_el (rf_snoc f g) = vx_el f ++ vx_el g
  | .leaf => rfl
  | .inner j q u F X => by
    show .inner j q () F .leaf :: vx_el (rf_snoc X g) = .inner j q () F .leaf :: vx_el X ++ vx_el g
    rw [vl_el_snoc]
    rfl
theorem vx_ok_snoc {ar : Int → Int} {AR : Nat → List Int} {g : rf_N} (hg : vx_ok ar AR g) : ∀ {f : rf_N}, vx_ok ar AR f → vx_ok ar AR (rf_snoc f g)
  | .leaf, _ => hg
  | .inner j q u F X, ⟨h1, h2⟩ => ⟨h1, vx_ok_snoc hg h2⟩
section
variable {tv tc : Int → rf_T} {tm : Int → Int → rf_T} {AR : Nat → List Int} {TV : Int → qx_T → Prop}
theorem vl_rw_ty : ∀ {F : rf_N} {u : rf_T}, vl_rw tv tc tm AR F u rf_b → (vx_ty tv tc tm AR F).2 u
  | .leaf, _, h => h
  | .inner j q u F X, _, ⟨A, B, h1, h2, h3⟩ => ⟨A, B, h1, h2, vl_rw_ty h3⟩
theorem vl_rw_snoc {j : Nat} {q : Int × Int} {G : rf_N} {A B : rf_T} (hg : (vx_ty tv tc tm AR (.inner j q () G .leaf)).1 A) : ∀ {F : rf_N} {u : rf_T}, vl_rw tv tc tm AR F u (rf_a A B) → vl_rw tv tc tm AR (rf_snoc F (.inner j q () G .leaf)) u B
  | .leaf, u, h => ⟨A, B, h, hg, rfl⟩
  | .inner i p u F X, _, ⟨A', B', h1, h2, h3⟩ => ⟨A', B', h1, h2, vl_rw_snoc hg h3⟩
theorem vl_c1_ty (hT : ∀ v T, TV v T → tv v = qx_sh T) : ∀ {x : qx_T} {W : rf_N} {k h : Int} {f : rf_N} {ρ : List Int} {u : rf_T}, vl_c1 TV x W k h f ρ → ((k = 1 ∧ tc h = u) ∨ (k = 2 ∧ tv h = u)) → vl_rw tv tc tm AR f u (qx_sh x) → (vx_ty tv tc tm AR W).1 (qx_sh x)
  | .leaf, W, k, h, f, ρ, u, ⟨j, e⟩, hk, hf => by
    have hf' := vl_rw_ty hf
    rw [e]
    rcases hk with ⟨rfl, rfl⟩ | ⟨rfl, rfl⟩
    · exact Or.inr (Or.inl ⟨rfl, rfl, hf'⟩)
    · exact Or.inr (Or.inr (Or.inl ⟨rfl, rfl, hf'⟩))
  | .inner _ b _ x y, W, k, h, f, ρ, u, hc, hk, hf => by
    rcases hc with ⟨rfl, j, e⟩ | ⟨⟨rfl, rfl⟩, j, v, g, W', e, ⟨h2, h6, h7⟩, h3, h4, h5⟩
    · have hf' := vl_rw_ty hf
      rw [e]
      rcases hk with ⟨rfl, rfl⟩ | ⟨rfl, rfl⟩
      · exact Or.inr (Or.inl ⟨rfl, rfl, hf'⟩)
      · exact Or.inr (Or.inr (Or.inl ⟨rfl, rfl, hf'⟩))
    · have ev := hT v x h7
      rw [e]
      have hg := vl_c1_ty hT h4 (Or.inr ⟨rfl, ev⟩) (show vl_rw tv tc tm AR .leaf (qx_sh x) (qx_sh x) from rfl)
      obtain ⟨i, kk, hh, G, rfl⟩ := h3
      refine Or.inl ⟨rfl, qx_sh y, ?_, vl_c1_ty hT h5 hk (vl_rw_snoc hg hf)⟩
      show rf_a (qx_sh x) (qx_sh y) = rf_a (tv v) (qx_sh y)
      rw [ev]
theorem qx_sh_as {x : qx_T} : ∀ {Ts : List qx_T} (i : Nat) {T : qx_T}, Ts[i]? = some T → (rf_args (qx_sh (dz_as Ts x)))[i]? = some (qx_sh T)
  | [], i, T, h => by simp at h
  | A :: Ts, 0, T, h => by
    have e : A = T := by simpa using h
    subst e
    rfl
  | A :: Ts, i + 1, T, h => by
    rw [List.getElem?_cons_succ] at h
    show (qx_sh A :: rf_args (qx_sh (dz_as Ts x)))[i + 1]? = _
    rw [List.getElem?_cons_succ]
    exact qx_sh_as i h
theorem qx_sh_len {x : qx_T} : ∀ {Ts : List qx_T}, (rf_args (qx_sh (dz_as Ts x))).length = Ts.length + (rf_args (qx_sh x)).length
  | [] => (Nat.zero_add _).symm
  | A :: Ts => by
    show (qx_sh A :: rf_args (qx_sh (dz_as Ts x))).length = Ts.length + 1 + _
    rw [List.length_cons, qx_sh_len]
    omega
/-- the ARG types of an unknown of type U -/
def vl_ta (U : qx_T) (i : Int) : rf_T := (rf_args (qx_sh U)).getD i.toNat rf_b
theorem vl_c3_ty (hT : ∀ v T, TV v T → tv v = qx_sh T) {U : qx_T} : ∀ {x : qx_T} {W : rf_N} {h : Int} {vs : List Int} {ρ : List Int} {Ts : List qx_T}, vl_c3 TV AR x W h vs ρ → (∀ i : Int, tm h i = vl_ta U i) → U = dz_as Ts x → Ts.length = vs.length → (∀ (i : Nat) y T, vs[i]? = some y → Ts[i]? = some T → tv y = qx_sh T) → (vx_ty tv tc tm AR W).1 (qx_sh x) ∧ vx_ok (fun _ => ((rf_args (qx_sh U)).length : Int)) AR W := by
  have fin : ∀ {x : qx_T} {W : rf_N} {h : Int} {vs : List Int} {Ts : List qx_T} {j : Nat} {F : rf_N}, qx_sh x = rf_b → W = rf_n j 3 h F .leaf → AR j = vs → (∀ i : Int, tm h i = vl_ta U i) → U = dz_as Ts x → Ts.length = vs.length → (∀ (i : Nat) y T, vs[i]? = some y → Ts[i]? = some T → tv y = qx_sh T) → (vx_ty tv tc tm AR W).1 (qx_sh x) ∧ vx_ok (fun _ => ((rf_args (qx_sh U)).length : Int)) AR W := by
    intro x W h vs Ts j F ex e ea ht hU hl hv
    rw [e, ex]
    refine ⟨Or.inr (Or.inr (Or.inr ⟨rfl, rfl, fun i y hy => ?_⟩)), Or.inr ⟨rfl, ?_⟩, trivial⟩
    · rw [ea] at hy
      have hi : i < Ts.length := by
        rw [hl]
        exact (List.getElem?_eq_some_iff.mp hy).1
      have h1 := hv i y _ hy (List.getElem?_eq_getElem hi)
      show tv y = tm h (i : Int)
      rw [h1, ht]
      unfold vl_ta
      have h2 := qx_sh_as (x := x) i (List.getElem?_eq_getElem hi)
      rw [← hU] at h2
      rw [List.getD_eq_getElem?_getD, Int.toNat_natCast, h2]
      rfl
    · rw [ea, hU, qx_sh_len, ex]
      show (vs.length : Int) = ((Ts.length + 0 : Nat) : Int)
      omega
  intro x
  induction x with
  | leaf =>
    rintro W h vs ρ Ts ⟨j, F, e, ea⟩ ht hU hl hv
    exact fin rfl e ea ht hU hl hv
  | inner n b u x y ihx ihy =>
    intro W h vs ρ Ts hc ht hU hl hv
    rcases hc with ⟨rfl, j, F, e, ea⟩ | ⟨⟨rfl, rfl⟩, j, v, W', e, ⟨h2, h6, h7⟩, h5⟩
    · exact fin rfl e ea ht hU hl hv
    · have ev := hT v x h7
      have hU' : U = dz_as (Ts ++ [x]) y := by
        rw [hU, ← dz_as_snoc]
      obtain ⟨a1, a2⟩ := ihy h5 ht hU' (by rw [List.length_append, List.length_append, hl]; rfl) (fun i w T hw hT' => by
        by_cases q : i < vs.length
        · rw [List.getElem?_append_left q] at hw
          rw [List.getElem?_append_left (by omega)] at hT'
          exact hv i w T hw hT'
        · rw [List.getElem?_append_right (by omega)] at hw
          rw [List.getElem?_append_right (by omega), hl] at hT'
          by_cases q2 : i - vs.length = 0
          · rw [q2] at hw hT'
            have e1 : v = w := by simpa using hw
            have e2 : x = T := by simpa using hT'
            rw [← e1, ← e2]
            exact ev
          · rw [List.getElem?_eq_none (by rw [List.length_singleton]; omega)] at hw
            cases hw)
      rw [e]
      refine ⟨Or.inl ⟨rfl, qx_sh y, ?_, a1⟩, Or.inl ⟨Or.inl rfl, a2⟩, trivial⟩
      show rf_a (qx_sh x) (qx_sh y) = rf_a (tv v) (qx_sh y)
      rw [ev]
/-- free variables are those bound around -/
theorem vl_c1_fv {P : Int → Int → Prop} : ∀ {x : qx_T} {W : rf_N} {k h : Int} {f : rf_N} {ρ : List Int}, vl_c1 TV x W k h f ρ → k ≠ 0 → k ≠ 3 → (k = 2 → h ∈ ρ) → (∀ z, vx_fv P AR z f → z ∈ ρ) → ∀ z, vx_fv P AR z W → z ∈ ρ
  | .leaf, W, k, h, f, ρ, ⟨j, e⟩, k0, k3, hk, hf, z, hz => by
    rw [e] at hz
    rcases hz with (⟨q, _⟩ | ⟨q, _⟩ | ⟨_, _, ⟨q1, q2⟩ | q⟩) | q
    · exact absurd q k0
    · exact absurd q k3
    · rw [q2]
      exact hk q1
    · exact hf z q
    · exact q.elim
  | .inner n b _ x y, W, k, h, f, ρ, hc, k0, k3, hk, hf, z, hz => by
    rcases hc with ⟨rfl, j, e⟩ | ⟨⟨rfl, rfl⟩, j, v, g, W', e, ⟨h2, h6, h7⟩, h3, h4, h5⟩
    · rw [e] at hz
      rcases hz with (⟨q, _⟩ | ⟨q, _⟩ | ⟨_, _, ⟨q1, q2⟩ | q⟩) | q
      · exact absurd q k0
      · exact absurd q k3
      · rw [q2]
        exact hk q1
      · exact hf z q
      · exact q.elim
    · rw [e] at hz
      have hg := vl_c1_fv (P := P) h4 (by decide) (by decide) (fun _ => List.mem_cons_self) (fun _ q => q.elim)
      rcases hz with (⟨_, q1, q2⟩ | ⟨q, _⟩ | ⟨q, _⟩) | q
      · have := vl_c1_fv (P := P) h5 k0 k3 (fun c => List.mem_cons_of_mem _ (hk c)) (fun w hw => by
          obtain ⟨B, b1, b2⟩ := vx_fv_el.mp hw
          rw [vl_el_snoc] at b1
          rcases List.mem_append.mp b1 with b1 | b1
          · exact List.mem_cons_of_mem _ (hf w (vx_fv_el.mpr ⟨B, b1, b2⟩))
          · exact hg w (vx_fv_el.mpr ⟨B, b1, b2⟩)) z q2
        rcases List.mem_cons.mp this with q | q
        · exact absurd q q1
        · exact q
      · exact absurd q vx_03
      · exact absurd rfl q
      · exact q.elim
theorem vl_c3_fv {P : Int → Int → Prop} : ∀ {x : qx_T} {W : rf_N} {h : Int} {vs : List Int} {ρ : List Int}, vl_c3 TV AR x W h vs ρ → (∀ v ∈ vs, v ∈ ρ) → ∀ z, vx_fv P AR z W → z ∈ ρ
  | .leaf, W, h, vs, ρ, ⟨j, F, e, ea⟩, hv, z, hz => by
    rw [e] at hz
    rcases hz with (⟨q, _⟩ | ⟨_, i, q, _⟩ | ⟨_, q, _⟩) | q
    · exact absurd q vx_30
    · rw [ea] at q
      exact hv z (List.mem_of_getElem? q)
    · exact absurd rfl q
    · exact q.elim
  | .inner n b _ x y, W, h, vs, ρ, hc, hv, z, hz => by
    rcases hc with ⟨rfl, j, F, e, ea⟩ | ⟨⟨rfl, rfl⟩, j, v, W', e, ⟨h2, h6, h7⟩, h5⟩
    · rw [e] at hz
      rcases hz with (⟨q, _⟩ | ⟨_, i, q, _⟩ | ⟨_, q, _⟩) | q
      · exact absurd q vx_30
      · rw [ea] at q
        exact hv z (List.mem_of_getElem? q)
      · exact absurd rfl q
      · exact q.elim
    · rw [e] at hz
      rcases hz with (⟨_, q1, q2⟩ | ⟨q, _⟩ | ⟨q, _⟩) | q
      · have := vl_c3_fv (P := P) h5 (fun w hw => by
          rcases List.mem_append.mp hw with hw | hw
          · exact List.mem_cons_of_mem _ (hv w hw)
          · rw [List.mem_singleton.mp hw]
            exact List.mem_cons_self) z q2
        rcases List.mem_cons.mp this with q | q
        · exact absurd q q1
        · exact q
      · exact absurd q vx_03
      · exact absurd rfl q
      · exact q.elim
/-- which unknowns stand in it -/
theorem vl_c1_mt {m : Int} : ∀ {x : qx_T} {W : rf_N} {k h : Int} {f : rf_N} {ρ : List Int}, vl_c1 TV x W k h f ρ → k ≠ 3 → vx_mt m W → vx_mt m f
  | .leaf, W, k, h, f, ρ, ⟨j, e⟩, k3, hm => by
    rw [e] at hm
    rcases hm with ⟨q, _⟩ | ⟨_, q⟩ | q
    · exact absurd q k3
    · exact q
    · exact q.elim
  | .inner n b _ x y, W, k, h, f, ρ, hc, k3, hm => by
    rcases hc with ⟨rfl, j, e⟩ | ⟨⟨rfl, rfl⟩, j, v, g, W', e, _, h3, h4, h5⟩
    · rw [e] at hm
      rcases hm with ⟨q, _⟩ | ⟨_, q⟩ | q
      · exact absurd q k3
      · exact q
      · exact q.elim
    · rw [e] at hm
      rcases hm with ⟨q, _⟩ | ⟨_, q⟩ | q
      · exact absurd q vx_03
      · have := vl_c1_mt h5 k3 q
        obtain ⟨B, b1, b2⟩ := vx_mt_el.mp this
        rw [vl_el_snoc] at b1
        rcases List.mem_append.mp b1 with b1 | b1
        · exact vx_mt_el.mpr ⟨B, b1, b2⟩
        · exact (vl_c1_mt (m := m) h4 (by decide) (vx_mt_el.mpr ⟨B, b1, b2⟩)).elim
      · exact q.elim
theorem vl_c3_mt {m : Int} : ∀ {x : qx_T} {W : rf_N} {h : Int} {vs : List Int} {ρ : List Int}, vl_c3 TV AR x W h vs ρ → vx_mt m W → m = h
  | .leaf, W, h, vs, ρ, ⟨j, F, e, ea⟩, hm => by
    rw [e] at hm
    rcases hm with ⟨_, q⟩ | ⟨q, _⟩ | q
    · exact q.symm
    · exact absurd rfl q
    · exact q.elim
  | .inner n b _ x y, W, h, vs, ρ, hc, hm => by
    rcases hc with ⟨rfl, j, F, e, ea⟩ | ⟨⟨rfl, rfl⟩, j, v, W', e, _, h5⟩
    · rw [e] at hm
      rcases hm with ⟨_, q⟩ | ⟨q, _⟩ | q
      · exact q.symm
      · exact absurd rfl q
      · exact q.elim
    · rw [e] at hm
      rcases hm with ⟨q, _⟩ | ⟨_, q⟩ | q
      · exact absurd q vx_03
      · exact vl_c3_mt h5 q
      · exact q.elim
theorem vl_c1_ok {ar : Int → Int} : ∀ {x : qx_T} {W : rf_N} {k h : Int} {f : rf_N} {ρ : List Int}, vl_c1 TV x W k h f ρ → (k = 1 ∨ k = 2) → vx_ok ar AR f → vx_ok ar AR W
  | .leaf, W, k, h, f, ρ, ⟨j, e⟩, hk, hf => by
    rw [e]
    exact ⟨Or.inl ⟨Or.inr hk, hf⟩, trivial⟩
  | .inner n b _ x y, W, k, h, f, ρ, hc, hk, hf => by
    rcases hc with ⟨rfl, j, e⟩ | ⟨⟨rfl, rfl⟩, j, v, g, W', e, _, h3, h4, h5⟩
    · rw [e]
      exact ⟨Or.inl ⟨Or.inr hk, hf⟩, trivial⟩
    · rw [e]
      exact ⟨Or.inl ⟨Or.inl rfl, vl_c1_ok h5 hk (vx_ok_snoc (vl_c1_ok h4 (Or.inr rfl) trivial) hf)⟩, trivial⟩
end
