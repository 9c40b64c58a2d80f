/-! ===== the reference: the unknowns are made ===== -/
theorem rf_get_snoc {A T : rf_T} : ∀ {D : List rf_T} {q : Nat}, (D ++ [A])[q]? = some T → (q < D.length ∧ D[q]? = some T) ∨ (q = D.length ∧ T = A)
  | [], 0, h => by
    have h1 : some A = some T := h
    cases h1
    exact Or.inr ⟨rfl, rfl⟩
  | [], q + 1, h => by
    have h1 : (none : Option rf_T) = some T := h
    cases h1
  | d :: D, 0, h => Or.inl ⟨by simp, h⟩
  | d :: D, q + 1, h => by
    have h1 : (D ++ [A])[q]? = some T := h
    rcases rf_get_snoc h1 with ⟨h2, h3⟩ | ⟨h2, h3⟩
    · exact Or.inl ⟨by simp; exact h2, h3⟩
    · exact Or.inr ⟨by simp; exact h2, h3⟩
theorem rf_args_le : ∀ (x T : rf_T), T ∈ rf_args x → rf_at T ≤ rf_at x
  | .leaf, T, h => absurd h List.not_mem_nil
  | .inner n u v A B, T, h => by
    have e : rf_at (.inner n u v A B) = rf_at A + rf_at B := rfl
    have h1 : T ∈ A :: rf_args B := h
    rcases List.mem_cons.mp h1 with h2 | h2
    · rw [h2]
      omega
    · have := rf_args_le B T h2
      omega
def rf_I0 (s u : sx_S) (k : Int) : Prop := ∀ r : Int, 0 ≤ r → r < k → u.2.1 111 r.toNat = 0 ∧ ∃ x : rf_T, rf_is s x (s.2.1 123 r.toNat) ∧ rf_at x ≤ 5 ∧ u.2.1 108 r.toNat = ((rf_args x).length : Int) ∧ (0 ≤ u.2.1 109 r.toNat ∧ u.2.1 109 r.toNat + ((rf_args x).length : Int) ≤ u.1 66 64) ∧ ∀ (q : Nat) (T : rf_T), (rf_args x)[q]? = some T → rf_is s T (u.2.1 110 (u.2.1 109 r.toNat + (q : Int)).toNat)
def rf_I1 (s u : sx_S) (k : Int) : Prop := (cx_I u ∧ cx_F [(66, 66), (108, 111), (124, 124)] s u ∧ rf_f [61, 64] s u) ∧ u.1 66 61 = k ∧ (0 ≤ u.1 66 64 ∧ u.1 66 64 ≤ 4 * k) ∧ rf_I0 s u k
def rf_I2 (s u : sx_S) (k x3 : Int) : Prop := (cx_I u ∧ cx_F [(66, 66), (108, 111), (124, 124)] s u ∧ rf_f [61, 64] s u) ∧ u.1 66 61 = k + 1 ∧ (0 ≤ u.2.1 109 k.toNat ∧ u.2.1 109 k.toNat ≤ 4 * k ∧ u.1 66 64 = u.2.1 109 k.toNat + u.2.1 108 k.toNat) ∧ rf_I0 s u k ∧ u.2.1 111 k.toNat = 0 ∧ ∃ (x y : rf_T) (D : List rf_T), (rf_is s x (s.2.1 123 k.toNat) ∧ rf_at x ≤ 5 ∧ rf_is s y x3) ∧ rf_args x = D ++ rf_args y ∧ u.2.1 108 k.toNat = (D.length : Int) ∧ ∀ (q : Nat) (T : rf_T), D[q]? = some T → rf_is s T (u.2.1 110 (u.2.1 109 k.toNat + (q : Int)).toNat)
theorem rf_I2_0 {s u t : sx_S} {k z : Int} (hk : 0 ≤ k) (h : rf_I1 s u k) (h5 : rf_t5 s (s.2.1 123 k.toNat)) (c1 : cx_I t) (c2 : cx_F [(66, 66), (108, 109), (111, 111), (124, 124)] u t) (c3 : z = u.1 66 61) (c4 : t.1 66 61 = u.1 66 61 + 1) (c5 : rf_f [61] u t) (c6 : rf_ag 108 111 (u.1 66 61) u t) (c7 : t.2.1 108 z.toNat = 0) (c8 : t.2.1 109 z.toNat = u.1 66 64) (c9 : t.2.1 111 z.toNat = 0) : z = k ∧ rf_I2 s t k (s.2.1 123 k.toNat) := by
  obtain ⟨⟨a1, a2, a3⟩, a4, a5, a6⟩ := h
  have ez : z = k := by omega
  subst ez
  obtain ⟨x, hx, h5⟩ := h5
  have e64 := c5 64 rfl
  have e110 : t.2.1 110 = u.2.1 110 := (c2.same 110 rfl).2
  refine ⟨rfl, ⟨c1, cx_F_step c2 rfl a2, rf_f_step c5 rfl a3⟩, by omega, by omega, fun r r0 r1 => ?_, c9, x, x, [], ⟨hx, h5, hx⟩, rfl, by rw [c7]; rfl, fun q T hT => ?_⟩
  · obtain ⟨b1, x', b2, b3, b4, b5, b6⟩ := a6 r r0 r1
    have e108 := c6 108 r.toNat (by omega) (by omega) (by omega)
    have e109 := c6 109 r.toNat (by omega) (by omega) (by omega)
    have e111 := c6 111 r.toNat (by omega) (by omega) (by omega)
    refine ⟨by rw [e111]; exact b1, x', b2, b3, by rw [e108]; exact b4, by rw [e109]; omega, fun q T hT => ?_⟩
    rw [e109, e110]
    exact b6 q T hT
  · have h0 : (none : Option rf_T) = some T := hT
    cases h0
theorem rf_I2_s {s u t : sx_S} {k x3 a : Int} (hk : 0 ≤ k) (h3 : 1 < x3) (h : rf_I2 s u k x3) (ha : a = u.2.1 72 x3.toNat) (c1 : cx_I t) (c2 : cx_F [(66, 66), (108, 108), (110, 110)] u t) (c3 : rf_f [64] u t) (c4 : t.1 66 64 = u.1 66 64 + 1) (c5 : rf_ag 110 110 (u.1 66 64) u t) (c6 : t.2.1 110 (u.1 66 64).toNat = a) (c7 : rf_ro 108 108 k u t) (c8 : t.2.1 108 k.toNat = u.2.1 108 k.toNat + 1) : rf_I2 s t k (t.2.1 73 x3.toNat) := by
  obtain ⟨⟨a1, a2, a3⟩, a4, a5, a6, a7, x, y, D, ⟨b1, b2, b3⟩, b4, b5, b6⟩ := h
  have e61 := c3 61 rfl
  have e109 : t.2.1 109 = u.2.1 109 := (c2.same 109 rfl).2
  have e111 : t.2.1 111 = u.2.1 111 := (c2.same 111 rfl).2
  have f72 : u.2.1 72 = s.2.1 72 := (a2.same 72 rfl).2
  have f73 : u.2.1 73 = s.2.1 73 := (a2.same 73 rfl).2
  have g73 : t.2.1 73 = u.2.1 73 := (c2.same 73 rfl).2
  cases y with
  | leaf =>
    have : 0 ≤ x3 ∧ x3 < 2 := b3
    omega
  | inner n uu vv A B =>
    obtain ⟨⟨n0, n1, n2⟩, bA, bB⟩ := b3
    have hAB : rf_args (.inner n uu vv A B) = A :: rf_args B := rfl
    refine ⟨⟨c1, cx_F_step c2 rfl a2, rf_f_step c3 rfl a3⟩, by omega, ?_, fun r r0 r1 => ?_, by rw [e111]; exact a7, x, B, D ++ [A], ⟨b1, b2, ?_⟩, ?_, ?_, fun q T hT => ?_⟩
    · rw [e109, c8]
      omega
    · obtain ⟨d1, x', d2, d3, d4, d5, d6⟩ := a6 r r0 r1
      have e108 := c7 108 r.toNat (by omega) (by omega) (by omega)
      refine ⟨by rw [e111]; exact d1, x', d2, d3, by rw [e108]; exact d4, by rw [e109]; omega, fun q T hT => ?_⟩
      have hq : q < (rf_args x').length := by
        have := List.getElem?_eq_some_iff.mp hT
        exact this.1
      rw [e109, c5 110 _ (by omega) (by omega) (by omega)]
      exact d6 q T hT
    · rw [g73, f73]
      exact bB
    · rw [b4, hAB, List.append_assoc]
      rfl
    · rw [c8, b5, List.length_append]
      rfl
    · rcases rf_get_snoc hT with ⟨q1, q2⟩ | ⟨q1, q2⟩
      · rw [e109, c5 110 _ (by omega) (by omega) (by omega)]
        exact b6 q T q2
      · subst q2
        rw [e109, show (u.2.1 109 k.toNat + (q : Int)).toNat = (u.1 66 64).toNat by omega, c6, ha, f72]
        exact bA
theorem rf_I2_e {s u : sx_S} {k x3 : Int} (hk : 0 ≤ k) (h3 : x3 ≤ 1) (h : rf_I2 s u k x3) : rf_I1 s u (k + 1) := by
  obtain ⟨⟨a1, a2, a3⟩, a4, a5, a6, a7, x, y, D, ⟨b1, b2, b3⟩, b4, b5, b6⟩ := h
  have r108 := a1.arr 108 (by decide) rfl k.toNat
  cases y with
  | inner n uu vv A B =>
    obtain ⟨⟨n0, n1, n2⟩, bA, bB⟩ := b3
    omega
  | leaf =>
    have hD : rf_args x = D := by
      rw [b4]
      exact List.append_nil D
    subst hD
    refine ⟨⟨a1, a2, a3⟩, a4, by omega, fun r r0 r1 => ?_⟩
    by_cases hr : r < k
    · exact a6 r r0 hr
    · have e : r = k := by omega
      subst e
      exact ⟨a7, x, b1, b2, b5, by omega, b6⟩
/-- the unknowns are as the problem says -/
theorem rf_I1_UK {s u : sx_S} (h : rf_I1 s u (s.1 66 45)) : rf_UK u := by
  obtain ⟨⟨a1, a2, a3⟩, a4, a5, a6⟩ := h
  have e45 := a3 45 rfl
  have e9 := a3 9 rfl
  have e72 : u.2.1 72 = s.2.1 72 := (a2.same 72 rfl).2
  have e73 : u.2.1 73 = s.2.1 73 := (a2.same 73 rfl).2
  have e123 : u.2.1 123 = s.2.1 123 := (a2.same 123 rfl).2
  have his : ∀ x T, rf_is s x T → rf_is u x T := fun x T hx => by
    unfold rf_is at hx ⊢
    rw [e72, e73, e9]
    exact hx
  refine ⟨by omega, fun r r0 r1 => ?_⟩
  obtain ⟨b1, x, b2, b3, b4, b5, b6⟩ := a6 r r0 (by omega)
  refine ⟨x, by rw [e123]; exact his _ _ b2, b3, b4, fun q T hT => ?_⟩
  obtain ⟨hq, hqT⟩ := List.getElem?_eq_some_iff.mp hT
  refine ⟨by omega, his _ _ (b6 q T hT), ?_⟩
  have hm : T ∈ rf_args x := by
    rw [← hqT]
    exact List.getElem_mem hq
  have := rf_args_le x T hm
  omega
def rf_g0 (u : sx_S) : rf_Gh := (fun _ => .leaf, fun _ => .leaf, fun r q => (q : Int) < rf_aa u r)
theorem rf_rc_fst {R : Int → Int → Prop} {x y : Int} (h : rf_rc R x y) : ∃ z, R x z := by
  induction h with
  | single h => exact ⟨_, h⟩
  | tail _ _ ih => exact ih
theorem rf_I1_MI {s u : sx_S} {nb ib : Int} (h : rf_I1 s u (s.1 66 45)) : rf_MI nb ib u (rf_g0 u) := by
  have hU := rf_I1_UK h
  obtain ⟨⟨a1, a2, a3⟩, a4, a5, a6⟩ := h
  have e45 := a3 45 rfl
  refine ⟨fun x x0 x1 => ?_, fun x hx => ?_⟩
  · obtain ⟨b1, _⟩ := a6 x x0 (by omega)
    obtain ⟨y, d1, d2, d3, d4⟩ := hU.2 x x0 (by omega)
    refine ⟨fun q hq => ?_, fun q hq => hq, fun _ q hq => hq, fun c => absurd b1 c⟩
    have hq' : q < (rf_args y).length := by omega
    exact ⟨_, d4 q _ (List.getElem?_eq_getElem hq')⟩
  · obtain ⟨z, ⟨z1, z2⟩, z3, _⟩ := rf_rc_fst hx
    exact z3 (a6 x z1 (by omega)).1
theorem rf_I1_bd {s u : sx_S} (h45 : 0 ≤ s.1 66 45 ∧ s.1 66 45 ≤ 5) (h : rf_I1 s u (s.1 66 45)) : rf_ph u (rf_g0 u) ≤ 1150 ∧ rf_qu u ≤ 25 := by
  obtain ⟨⟨a1, a2, a3⟩, a4, a5, a6⟩ := h
  have f1 : ∀ j, rf_wt u (rf_g0 u) j ≤ 230 := fun j => by
    have r108 := a1.arr 108 (by decide) rfl j
    unfold rf_wt
    by_cases c : u.2.1 111 j = 0
    · rw [if_pos c]
      omega
    · rw [if_neg c]
      show (rf_wh .leaf).1 ≤ 230
      exact Nat.zero_le _
  have f2 : ∀ j, rf_q1 u j ≤ 5 := fun j => by
    have r108 := a1.arr 108 (by decide) rfl j
    unfold rf_q1
    by_cases c : u.2.1 111 j = 0
    · rw [if_pos c]
      omega
    · rw [if_neg c]
      omega
  have g1 := rf_sum_bd f1 (u.1 66 61).toNat
  have g2 := rf_sum_bd f2 (u.1 66 61).toNat
  unfold rf_ph rf_qu
  omega
