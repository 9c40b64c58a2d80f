/-! ===== long forms: what asVariable makes of them ===== -/
def dz_as : List qx_T → qx_T → qx_T
  | [], y => y
  | T :: Ts, y => qx_a T (dz_as Ts y)
def dz_sm : List qx_T → Nat
  | [] => 0
  | T :: Ts => qx_at T + dz_sm Ts
theorem qx_at_pos : ∀ x : qx_T, 1 ≤ qx_at x
  | .leaf => Nat.le_refl _
  | .inner _ k _ x y => by
    cases k with
    | true => exact Nat.le_refl _
    | false =>
      have := qx_at_pos x
      show 1 ≤ qx_at x + qx_at y
      omega
theorem dz_as_at (y : qx_T) : ∀ Ts : List qx_T, qx_at (dz_as Ts y) = dz_sm Ts + qx_at y
  | [] => (Nat.zero_add _).symm
  | T :: Ts => by
    show qx_at T + qx_at (dz_as Ts y) = qx_at T + dz_sm Ts + qx_at y
    rw [dz_as_at y Ts]
    omega
theorem dz_as_snoc (T y : qx_T) : ∀ Ts : List qx_T, dz_as Ts (qx_a T y) = dz_as (Ts ++ [T]) y
  | [] => rfl
  | U :: Ts => by
    show qx_a U (dz_as Ts (qx_a T y)) = qx_a U (dz_as (Ts ++ [T]) y)
    rw [dz_as_snoc T y Ts]
theorem dz_sm_len : ∀ Ts : List qx_T, Ts.length ≤ dz_sm Ts
  | [] => Nat.le_refl _
  | T :: Ts => by
    have h1 := dz_sm_len Ts
    have h2 := qx_at_pos T
    show Ts.length + 1 ≤ qx_at T + dz_sm Ts
    omega
theorem dz_sm_drop {Ts : List qx_T} {j : Nat} {T : qx_T} (h : Ts[j]? = some T) : dz_sm (Ts.drop j) = qx_at T + dz_sm (Ts.drop (j + 1)) := by
  induction Ts generalizing j with
  | nil => simp at h
  | cons U Ts ih =>
    cases j with
    | zero =>
      simp at h
      subst h
      rfl
    | succ j =>
      simp at h
      show dz_sm (Ts.drop j) = _ + dz_sm (Ts.drop (j + 1))
      exact ih h
theorem dz_sm_mem {T : qx_T} : ∀ {Ts : List qx_T} {j : Nat}, Ts[j]? = some T → qx_at T ≤ dz_sm Ts
  | [], j, h => by simp at h
  | U :: Ts, 0, h => by
    simp at h
    subst h
    exact Nat.le_add_right _ _
  | U :: Ts, j + 1, h => by
    simp at h
    have := dz_sm_mem h
    show _ ≤ qx_at U + dz_sm Ts
    omega
theorem dz_arr {s : sx_S} {y : qx_T} {z : Int} (h : dx_is s y z) (h1 : 2 ≤ z) (h2 : z < s.1 8 2) : ∃ T w, y = qx_a T w ∧ dx_is s T (s.2.1 9 z.toNat) ∧ dx_is s w (s.2.1 10 z.toNat) := by
  cases y with
  | leaf =>
    have : z = 0 := h
    omega
  | inner j k u x w =>
    obtain ⟨h3, h4⟩ := h
    subst h3
    rcases h4 with ⟨_, _, _, h5⟩ | ⟨h5, _, h6, h7⟩
    · omega
    · subst h5
      exact ⟨x, w, rfl, h6, h7⟩
/-- the new variables -/
def dz_bs (b : Int) (n : Nat) : List Int := (List.range n).map (fun (i : Nat) => b + (i : Int))
theorem dz_bs_len (b : Int) (n : Nat) : (dz_bs b n).length = n := by
  rw [dz_bs, List.length_map, List.length_range]
theorem dz_bs_s (b : Int) (n : Nat) : dz_bs b (n + 1) = dz_bs b n ++ [b + (n : Int)] := by
  rw [dz_bs, List.range_succ, List.map_append]
  rfl
theorem dz_bs_drop (b : Int) {n j : Nat} (h : j < n) : (dz_bs b n).drop j = (b + (j : Int)) :: (dz_bs b n).drop (j + 1) := by
  have h1 : j < (dz_bs b n).length := by rw [dz_bs_len]; exact h
  rw [List.drop_eq_getElem_cons h1]
  congr 1
  simp [dz_bs]
/-- what a long form is for asVariable: its head and explicit ARGs alone count -/
def dz_sem (W : rf_N) (k h : Int) (f : rf_N) (m : Nat) : Prop := True → (∀ (g : Nat) (us : List Int) (v : Int), (dz_av W).1 g us v → k = 2 ∧ v = h ∧ ∃ g', g = g' + 1 ∧ (dz_av f).2 g' us) ∧ (∀ (g : Nat) (us : List Int), k = 2 → m ≤ g + 1 → us.length + m ≤ 5 → (dz_av f).2 g us → (dz_av W).1 (g + 1) us h)
theorem dz_av_dn {B : rf_N} {g : Nat} {v : Int} : ∀ {n : Nat} {W : rf_N}, rf_dn B n W → ∀ us : List Int, (dz_av W).1 g us v ↔ ((n = 0 ∨ us.length + n ≤ 4) ∧ (dz_av B).1 g (us ++ rf_rf n W) v)
  | 0, W, h, us => by
    have e : W = B := h
    subst e
    have e2 : rf_rf 0 W = [] := by cases W <;> rfl
    rw [e2, List.append_nil]
    exact ⟨fun q => ⟨Or.inl rfl, q⟩, fun q => q.2⟩
  | n + 1, .leaf, h, _ => h.elim
  | n + 1, .inner j k _ f x, h, us => by
    obtain ⟨h1, h2⟩ := h
    have ih := dz_av_dn (B := B) (g := g) (v := v) h2 (us ++ [k.2])
    have e2 : us ++ rf_rf (n + 1) (.inner j k () f x) = us ++ [k.2] ++ rf_rf n f := by
      rw [List.append_assoc]
      rfl
    rw [e2]
    rw [List.length_append, List.length_singleton] at ih
    constructor
    · rintro (⟨_, q1, q2⟩ | ⟨q1, _⟩)
      · obtain ⟨q3, q4⟩ := ih.mp q2
        exact ⟨Or.inr (by omega), q4⟩
      · omega
    · rintro ⟨q1, q2⟩
      exact Or.inl ⟨h1, by omega, ih.mpr ⟨by omega, q2⟩⟩
/-- rows put together -/
theorem dz_av_app {G : rf_N} {g : Nat} : ∀ {f : rf_N} {ws : List Int}, (dz_av (rf_snoc f G)).2 g ws ↔ ∃ us vs, ws = us ++ vs ∧ (dz_av f).2 g us ∧ (dz_av G).2 g vs
  | .leaf, ws => ⟨fun h => ⟨[], ws, rfl, rfl, h⟩, fun ⟨us, vs, h1, h2, h3⟩ => by
    have e : us = [] := h2
    rw [h1, e]
    exact h3⟩
  | .inner j k _ f x, ws => by
    constructor
    · rintro ⟨u, us', h1, h2, h3⟩
      obtain ⟨us, vs, h4, h5, h6⟩ := dz_av_app.mp h3
      exact ⟨u :: us, vs, by rw [h1, h4]; rfl, ⟨u, us, rfl, h2, h5⟩, h6⟩
    · rintro ⟨us, vs, h1, ⟨u, us', h2, h3, h4⟩, h5⟩
      exact ⟨u, us' ++ vs, by rw [h1, h2]; rfl, h3, dz_av_app.mpr ⟨us', vs, rfl, h4, h5⟩⟩
theorem dz_av_one {P : rf_N} {g : Nat} {v : Int} (hP : rf_nx P) (h : (dz_av P).1 g [] v) : (dz_av P).2 g [v] := by
  cases P with
  | leaf => exact h.elim
  | inner j k u f x =>
    have e : x = .leaf := hP
    subst e
    exact ⟨v, [], rfl, h, rfl⟩
/-- the whole -/
theorem dz_sem_mk {z : Nat} {k h : Int} {f G W : rf_N} {L m : Nat} {b : Int} (hk : k ≠ 0) (hW : rf_dn (rf_n z k h (rf_snoc f G) .leaf) L W) (hr : rf_rf L W = dz_bs b L) (hG : rf_len G = L) (hm : L + 1 ≤ m) (hs : k ≠ 3 → ∀ g, m ≤ g + 1 → (dz_av G).2 g (dz_bs b L)) : dz_sem W k h f m := fun _ => by
  refine ⟨fun g us v q => ?_, fun g us k2 mg ml q => ?_⟩
  · obtain ⟨_, q2⟩ := (dz_av_dn hW us).mp q
    rcases q2 with ⟨q3, _⟩ | ⟨q3, q4, g', q5, q6⟩
    · exact absurd q3 hk
    · refine ⟨q3, q4.symm, g', q5, ?_⟩
      obtain ⟨us', vs, q7, q8, q9⟩ := dz_av_app.mp q6
      have l1 := dz_av_len q9
      have l2 := dz_bs_len b L
      rw [hr] at q7
      have l3 := congrArg List.length q7
      rw [List.length_append, List.length_append] at l3
      have e := (List.append_inj q7 (by omega)).1
      rw [e]
      exact q8
  · refine (dz_av_dn hW us).mpr ⟨by omega, Or.inr ⟨k2, rfl, g, rfl, ?_⟩⟩
    rw [hr]
    exact dz_av_app.mpr ⟨us, _, rfl, q, hs (by omega) g mg⟩
