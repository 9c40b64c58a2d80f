/-! ===== long forms of variables ===== -/
/-- (with these binders around, what stands there is the long form of v; these parts are the long forms of these variables) -/
def rf_lf2 : rf_N → (List Int → Int → Prop) × (List Int → Prop)
  | .leaf => (fun _ _ => False, fun us => us = [])
  | .inner _ k _ f x => (fun us v => (k.1 = 0 ∧ (rf_lf2 f).1 (us ++ [k.2]) v) ∨ (k.1 = 2 ∧ k.2 = v ∧ v ∉ us ∧ (rf_lf2 f).2 us), fun us => ∃ u us', us = u :: us' ∧ ((k.1 = 0 ∧ (rf_lf2 f).1 ([] ++ [k.2]) u) ∨ (k.1 = 2 ∧ k.2 = u ∧ u ∉ ([] : List Int) ∧ (rf_lf2 f).2 [])) ∧ (rf_lf2 x).2 us')
def rf_lf (n : rf_N) (v : Int) : Prop := (rf_lf2 n).1 [] v
theorem rf_lf2_c {j : Nat} {k : Int × Int} {u : Unit} {f x : rf_N} {us : List Int} : (rf_lf2 (.inner j k u f x)).2 us ↔ ∃ w us', us = w :: us' ∧ rf_lf (.inner j k u f x) w ∧ (rf_lf2 x).2 us' := Iff.rfl
theorem rf_lf2_snoc {n : rf_N} {v : Int} (hn : rf_nx n) (h : rf_lf n v) : ∀ {f : rf_N} {us : List Int}, (rf_lf2 f).2 us → (rf_lf2 (rf_snoc f n)).2 (us ++ [v])
  | .leaf, us, q => by
    have e : us = [] := q
    subst e
    cases n with
    | leaf => exact h.elim
    | inner j k u f x =>
      have e : x = .leaf := hn
      subst e
      exact ⟨v, [], rfl, h, rfl⟩
  | .inner j k u f x, us, ⟨w, us', q1, q2, q3⟩ => by
    subst q1
    exact ⟨w, us' ++ [v], rfl, q2, rf_lf2_snoc hn h q3⟩
def rf_G0 : Nat → Int → List Int → Prop := fun _ _ _ => False
/-- every variable stands in its scope; G: what is asked of an unknown -/
def rf_sc (G : Nat → Int → List Int → Prop) : rf_N → (List Int → Prop) × (List Int → Prop)
  | .leaf => (fun _ => True, fun _ => True)
  | .inner j k _ f x => (fun Γ => (k.1 = 0 ∧ (rf_sc G f).1 (k.2 :: Γ)) ∨ (k.1 ≠ 0 ∧ (k.1 = 2 → k.2 ∈ Γ) ∧ (k.1 = 3 → G j k.2 Γ) ∧ (rf_sc G f).2 Γ), fun Γ => ((k.1 = 0 ∧ (rf_sc G f).1 (k.2 :: Γ)) ∨ (k.1 ≠ 0 ∧ (k.1 = 2 → k.2 ∈ Γ) ∧ (k.1 = 3 → G j k.2 Γ) ∧ (rf_sc G f).2 Γ)) ∧ (rf_sc G x).2 Γ)
theorem rf_sc_mono {G G' : Nat → Int → List Int → Prop} : ∀ {n : rf_N}, (∀ j ∈ rf_idx n, ∀ (r : Int) (Γ Γ' : List Int), (∀ v ∈ Γ, v ∈ Γ') → G j r Γ → G' j r Γ') → (∀ Γ Γ' : List Int, (∀ v ∈ Γ, v ∈ Γ') → (rf_sc G n).1 Γ → (rf_sc G' n).1 Γ') ∧ (∀ Γ Γ' : List Int, (∀ v ∈ Γ, v ∈ Γ') → (rf_sc G n).2 Γ → (rf_sc G' n).2 Γ')
  | .leaf, _ => ⟨fun _ _ _ h => h, fun _ _ _ h => h⟩
  | .inner j k v f x, hM => by
    have hf := rf_sc_mono (n := f) (fun q hq => hM q (List.mem_cons_of_mem _ (List.mem_append_left _ hq)))
    have hx := rf_sc_mono (n := x) (fun q hq => hM q (List.mem_cons_of_mem _ (List.mem_append_right _ hq)))
    have hj := hM j List.mem_cons_self
    have h1 : ∀ Γ Γ' : List Int, (∀ v ∈ Γ, v ∈ Γ') → (rf_sc G (.inner j k v f x)).1 Γ → (rf_sc G' (.inner j k v f x)).1 Γ' := by
      rintro Γ Γ' hs (⟨e, q⟩ | ⟨e, q1, q2, q3⟩)
      · refine Or.inl ⟨e, hf.1 _ _ (fun w hw => ?_) q⟩
        rcases List.mem_cons.mp hw with rfl | hw
        · exact List.mem_cons_self
        · exact List.mem_cons_of_mem _ (hs w hw)
      · exact Or.inr ⟨e, fun z => hs _ (q1 z), fun z => hj _ _ _ hs (q2 z), hf.2 _ _ hs q3⟩
    exact ⟨h1, fun Γ Γ' hs q => ⟨h1 Γ Γ' hs q.1, hx.2 Γ Γ' hs q.2⟩⟩
theorem rf_sc_snoc {G : Nat → Int → List Int → Prop} {p : rf_N} {Γ : List Int} : ∀ {n : rf_N}, (rf_sc G n).2 Γ → (rf_sc G p).2 Γ → (rf_sc G (rf_snoc n p)).2 Γ
  | .leaf, _, g => g
  | .inner j k _ f x, h, g => ⟨h.1, rf_sc_snoc h.2 g⟩
theorem rf_sc_ch {G : Nat → Int → List Int → Prop} {b : rf_N} (hG : ∀ j ∈ rf_idx b, ∀ (r : Int) (Γ Γ' : List Int), (∀ v ∈ Γ, v ∈ Γ') → G j r Γ → G j r Γ') {D : List Int} (h : (rf_sc G b).1 D) : ∀ {C : List (Nat × Int)} {Γ : List Int}, (∀ v ∈ D, v ∈ C.map Prod.snd ∨ v ∈ Γ) → (rf_sc G (rf_ch C b)).1 Γ
  | [], Γ, hs => (rf_sc_mono (n := b) (G' := G) hG).1 _ _ (fun v hv => (hs v hv).elim (fun q => absurd q List.not_mem_nil) id) h
  | c :: l, Γ, hs => by
    refine Or.inl ⟨rfl, rf_sc_ch hG h (C := l) (fun v hv => ?_)⟩
    rcases hs v hv with q | q
    · rcases List.mem_cons.mp q with q | q
      · exact Or.inr (q ▸ List.mem_cons_self)
      · exact Or.inl q
    · exact Or.inr (List.mem_cons_of_mem _ q)
theorem rf_sc_12 {G : Nat → Int → List Int → Prop} {n : rf_N} {Γ : List Int} (hn : rf_nx n) (h : (rf_sc G n).1 Γ) : (rf_sc G n).2 Γ := by
  cases n with
  | leaf => exact h
  | inner j k u f x =>
    have e : x = .leaf := hn
    subst e
    exact ⟨h, trivial⟩
/-- what is a long form of v stands where v is in scope -/
theorem rf_lf_sc {G : Nat → Int → List Int → Prop} {v : Int} {Γ : List Int} : ∀ {n : rf_N} {us D : List Int}, (rf_lf2 n).1 us v → (rf_sc G n).1 D → (∀ w ∈ D, w ∈ us ∨ w ∈ Γ) → v ∈ Γ
  | .leaf, _, _, h, _, _ => h.elim
  | .inner j k u f x, us, D, h, g, hs => by
    rcases h with ⟨h1, h2⟩ | ⟨h1, h2, h3, _⟩
    · rcases g with ⟨_, g⟩ | ⟨g, _⟩
      · refine rf_lf_sc h2 g (fun w hw => ?_)
        rcases List.mem_cons.mp hw with rfl | hw
        · exact Or.inl (List.mem_append_right _ List.mem_cons_self)
        · exact (hs w hw).imp (List.mem_append_left _) id
      · exact absurd h1 g
    · rcases g with ⟨g, _⟩ | ⟨_, g, _⟩
      · omega
      · have := hs _ (g h1)
        rw [h2] at this
        exact this.resolve_left h3
theorem rf_snoc_leaf : ∀ f : rf_N, rf_snoc f .leaf = f
  | .leaf => rfl
  | .inner j k u f x => by
    exact congrArg (fun z => (.inner j k () f z : rf_N)) (rf_snoc_leaf x)
theorem rf_snoc_assoc (g n : rf_N) : ∀ f : rf_N, rf_snoc (rf_snoc f g) n = rf_snoc f (rf_snoc g n)
  | .leaf => rfl
  | .inner j k u f x => congrArg (fun z => (.inner j k () f z : rf_N)) (rf_snoc_assoc g n x)
theorem rf_lf2_len : ∀ {g : rf_N} {us : List Int}, (rf_lf2 g).2 us → rf_len g = us.length
  | .leaf, us, h => by
    have e : us = [] := h
    rw [e]
    rfl
  | .inner j k u f x, us, ⟨w, us', h1, _, h3⟩ => by
    rw [h1, List.length_cons, ← rf_lf2_len h3]
    rfl
theorem rf_len_snoc (g : rf_N) : ∀ f : rf_N, rf_len (rf_snoc f g) = rf_len f + rf_len g
  | .leaf => (Nat.zero_add _).symm
  | .inner j k u f x => by
    show rf_len (rf_snoc x g) + 1 = rf_len x + 1 + rf_len g
    rw [rf_len_snoc g x]
    omega
/-- the parts before the last ones -/
theorem rf_lf2_app {g : rf_N} {ws : List Int} (hg : (rf_lf2 g).2 ws) : ∀ {f : rf_N} {us : List Int}, (rf_lf2 (rf_snoc f g)).2 (us ++ ws) ↔ (rf_lf2 f).2 us
  | .leaf, us => by
    constructor
    · intro h
      have h1 := rf_lf2_len h
      have h2 := rf_lf2_len hg
      rw [List.length_append] at h1
      have h3 : rf_len (rf_snoc .leaf g) = rf_len g := rfl
      exact List.eq_nil_of_length_eq_zero (by omega)
    · intro h
      have e : us = [] := h
      rw [e]
      exact hg
  | .inner j k u f x, us => by
    constructor
    · rintro ⟨w, zs, h1, h2, h3⟩
      cases us with
      | nil =>
        exfalso
        have h4 := rf_lf2_len h3
        have h5 := rf_lf2_len hg
        rw [rf_len_snoc] at h4
        have h6 : ws.length = zs.length + 1 := by
          have := congrArg List.length h1
          simpa using this
        omega
      | cons u' us' =>
        injection h1 with e1 e2
        subst e1
        rw [← e2] at h3
        exact ⟨u', us', rfl, h2, (rf_lf2_app hg).mp h3⟩
    · rintro ⟨w, us', h1, h2, h3⟩
      subst h1
      exact ⟨w, us' ++ ws, rfl, h2, (rf_lf2_app hg).mpr h3⟩
theorem rf_ch_lf_iff {b : rf_N} {v : Int} : ∀ {C : List (Nat × Int)} {us : List Int}, (rf_lf2 (rf_ch C b)).1 us v ↔ (rf_lf2 b).1 (us ++ C.map Prod.snd) v
  | [], us => by
    rw [List.map_nil, List.append_nil]
    exact Iff.rfl
  | c :: l, us => by
    have ih := rf_ch_lf_iff (b := b) (v := v) (C := l) (us := us ++ [c.2])
    constructor
    · rintro (⟨_, h⟩ | ⟨h, _⟩)
      · have := ih.mp h
        rw [List.append_assoc] at this
        exact this
      · exact absurd (show (0 : Int) = 2 from h) (by decide)
    · intro h
      refine Or.inl ⟨rfl, ih.mpr ?_⟩
      rw [List.append_assoc]
      exact h
/-- n variables from place i on -/
def rf_rl (s : sx_S) (i : Int) : Nat → List Int
  | 0 => []
  | n + 1 => rf_rl s i n ++ [s.2.1 105 (i + (n : Int)).toNat]
theorem rf_rl_s (s : sx_S) (i : Int) (n : Nat) : rf_rl s i (n + 1) = rf_rl s i n ++ [s.2.1 105 (i + (n : Int)).toNat] := rfl
theorem rf_rl_eq {s t : sx_S} {i : Int} : ∀ {n : Nat}, (∀ q : Nat, q < n → t.2.1 105 (i + (q : Int)).toNat = s.2.1 105 (i + (q : Int)).toNat) → rf_rl t i n = rf_rl s i n
  | 0, _ => rfl
  | n + 1, h => by
    unfold rf_rl
    rw [rf_rl_eq (n := n) (fun q hq => h q (by omega)), h n (by omega)]
theorem rf_rl_len {s : sx_S} {i : Int} : ∀ n : Nat, (rf_rl s i n).length = n
  | 0 => rfl
  | n + 1 => by
    unfold rf_rl
    rw [List.length_append, rf_rl_len n]
    rfl
/-- the variables of the unknown that is being made -/
def rf_rv (s : sx_S) (x1 : Int) : List Int := rf_rl s (s.2.1 104 x1.toNat) (s.1 66 56 - s.2.1 104 x1.toNat).toNat
