/-! ===== long forms of variables ===== -/
/-- (with these binders around, what stands there is the long form of v; these parts are the long forms of these variables) -/
def rf_lf2 : rf_N → (List Int → Int → Prop) × (List Int → Prop)
  | .leaf => (fun _ _ => False, fun us => us = [])
  | .inner _ k _ f x => (fun us v => (k.1 = 0 ∧ (rf_lf2 f).1 (us ++ [k.2]) v) ∨ (k.1 = 2 ∧ k.2 = v ∧ v ∉ us ∧ (rf_lf2 f).2 us), fun us => ∃ u us', us = u :: us' ∧ ((k.1 = 0 ∧ (rf_lf2 f).1 ([] ++ [k.2]) u) ∨ (k.1 = 2 ∧ k.2 = u ∧ u ∉ ([] : List Int) ∧ (rf_lf2 f).2 [])) ∧ (rf_lf2 x).2 us')
def rf_lf (n : rf_N) (v : Int) : Prop := (rf_lf2 n).1 [] v
theorem rf_lf2_c {j : Nat} {k : Int × Int} {u : Unit} {f x : rf_N} {us : List Int} : (rf_lf2 (.inner j k u f x)).2 us ↔ ∃ w us', us = w :: us' ∧ rf_lf (.inner j k u f x) w ∧ (rf_lf2 x).2 us' := Iff.rfl
theorem rf_lf2_snoc {n : rf_N} {v : Int} (hn : rf_nx n) (h : rf_lf n v) : ∀ {f : rf_N} {us : List Int}, (rf_lf2 f).2 us → (rf_lf2 (rf_snoc f n)).2 (us ++ [v])
  | .leaf, us, q => by
    have e : us = [] := q
    subst e
    cases n with
    | leaf => exact h.elim
    | inner j k u f x =>
      have e : x = .leaf := hn
      subst e
      exact ⟨v, [], rfl, h, rfl⟩
  | .inner j k u f x, us, ⟨w, us', q1, q2, q3⟩ => by
    subst q1
    exact ⟨w, us' ++ [v], rfl, q2, rf_lf2_snoc hn h q3⟩
theorem rf_ch_lf {b : rf_N} {v : Int} : ∀ {C : List (Nat × Int)} {us : List Int}, (rf_lf2 b).1 (us ++ C.map Prod.snd) v → (rf_lf2 (rf_ch C b)).1 us v
  | [], us, h => by
    rw [List.map_nil, List.append_nil] at h
    exact h
  | c :: l, us, h => by
    refine Or.inl ⟨rfl, rf_ch_lf (C := l) ?_⟩
    rw [List.append_assoc]
    exact h
