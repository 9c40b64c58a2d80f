/-- a call that leaves it -/
def vz_K (s t : sx_S) : Prop := True → (t.1 0 2 = s.1 0 2 ∧ t.1 0 3 = s.1 0 3 ∧ t.1 66 37 = s.1 66 37) ∧ (∀ p, 2 ≤ p → p ≤ 28 → t.1 p = s.1 p ∧ t.2.1 p = s.2.1 p) ∧ (s.1 66 37 ≠ 0 → ∀ b n l, vk_LD b n l (rf_l0 s) → vk_LD b n l (rf_l0 t))
theorem vz_K_0 (s : sx_S) : vz_K s s := fun _ => ⟨⟨rfl, rfl, rfl⟩, fun _ _ _ => ⟨rfl, rfl⟩, fun _ _ _ _ h => h⟩
theorem vz_K_t {s t u : sx_S} (h2 : vz_K t u) (h1 : vz_K s t) : vz_K s u := fun _ => by
  obtain ⟨⟨a1, a2, a3⟩, a4, a5⟩ := h1 trivial
  obtain ⟨⟨b1, b2, b3⟩, b4, b5⟩ := h2 trivial
  exact ⟨⟨b1.trans a1, b2.trans a2, b3.trans a3⟩, fun p h1 h2 => ⟨(b4 p h1 h2).1.trans (a4 p h1 h2).1, (b4 p h1 h2).2.trans (a4 p h1 h2).2⟩, fun h b n l g => b5 (by rw [a3]; exact h) b n l (a5 h b n l g)⟩
theorem vk_LD_s {b : Nat → Int} {n : Int} {l : List ((Int × Int × qx_T) × (px_N × px_N))} {s t : sx_S} (h9 : t.1 66 9 = s.1 66 9) (h45 : t.1 66 45 = s.1 66 45) (h47 : t.1 66 47 = s.1 66 47) (h75 : t.1 66 75 = s.1 66 75) (h76 : t.1 66 76 = s.1 66 76) (ha : ∀ p, 72 ≤ p → p ≤ 73 ∨ 97 ≤ p → p ≤ 99 ∨ p = 123 → t.2.1 p = s.2.1 p) (hn : ∀ p j : Nat, 100 ≤ p → p ≤ 104 → (j : Int) < s.1 66 75 → t.2.1 p j = s.2.1 p j) (hr : ∀ j : Nat, (j : Int) < s.1 66 76 → t.2.1 105 j = s.2.1 105 j) (g : vk_LD b n l (rf_l0 s)) : vk_LD b n l (rf_l0 t) := by
  obtain ⟨l1, l2, l3, l4, _⟩ := rf_l0_f (s := s)
  obtain ⟨m1, m2, m3, m4, _⟩ := rf_l0_f (s := t)
  have y9 : (rf_l0 t).1 66 9 = (rf_l0 s).1 66 9 := ((m4 9 (by decide) (by decide) (by decide)).trans h9).trans (l4 9 (by decide) (by decide) (by decide)).symm
  have y45 : (rf_l0 t).1 66 45 = (rf_l0 s).1 66 45 := ((m4 45 (by decide) (by decide) (by decide)).trans h45).trans (l4 45 (by decide) (by decide) (by decide)).symm
  have y47 : (rf_l0 t).1 66 47 = (rf_l0 s).1 66 47 := ((m4 47 (by decide) (by decide) (by decide)).trans h47).trans (l4 47 (by decide) (by decide) (by decide)).symm
  have u72 : (rf_l0 t).2.1 72 = (rf_l0 s).2.1 72 := ha 72 (by omega) (by omega) (by omega)
  have u73 : (rf_l0 t).2.1 73 = (rf_l0 s).2.1 73 := ha 73 (by omega) (by omega) (by omega)
  have u97 : (rf_l0 t).2.1 97 = (rf_l0 s).2.1 97 := ha 97 (by omega) (by omega) (by omega)
  have u123 : (rf_l0 t).2.1 123 = (rf_l0 s).2.1 123 := ha 123 (by omega) (by omega) (by omega)
  have u98 : (rf_l0 t).2.1 98 = (rf_l0 s).2.1 98 := ha 98 (by omega) (by omega) (by omega)
  have u99 : (rf_l0 t).2.1 99 = (rf_l0 s).2.1 99 := ha 99 (by omega) (by omega) (by omega)
  exact vk_LD_u (s := rf_l0 s) (t := rf_l0 t) (fun _ => ⟨⟨by omega, by omega, by omega, fun j => ⟨by omega, fun _ => ⟨by rw [u72], by rw [u73]⟩⟩⟩, fun p j h1 h2 h3 => hn p j h1 (by omega) (by omega), fun j => ⟨fun hj => hn 104 j (by omega) (by omega) (by omega), fun hj => hr j (by omega), fun _ => by rw [u123]⟩⟩) y45 y47 u97 u123 u98 u99 g
/-- the desk writes what it shows -/
theorem vz_K_w {s t : sx_S} (h : cx_F [(29, 37), (55, 65)] s t) : vz_K s t := fun _ => by
  have e0 := (h.same 0 rfl).1
  have e66 := (h.same 66 rfl).1
  have big : ∀ p, 66 ≤ p → t.2.1 p = s.2.1 p := fun p hp => ((h p).1 (fun q hq => by
    simp only [List.mem_cons, List.not_mem_nil, or_false] at hq
    rcases hq with rfl | rfl <;> (dsimp only; omega))).2
  refine ⟨⟨by rw [e0], by rw [e0], by rw [e66]⟩, fun p h1 h2 => (h p).1 (fun q hq => by
    simp only [List.mem_cons, List.not_mem_nil, or_false] at hq
    rcases hq with rfl | rfl <;> (dsimp only; omega)), fun _ b n l g => vk_LD_s (by rw [e66]) (by rw [e66]) (by rw [e66]) (by rw [e66]) (by rw [e66]) (fun p h1 _ _ => big p (by omega)) (fun p j h1 _ _ => by rw [big p (by omega)]) (fun j _ => by rw [big 105 (by omega)]) g⟩
/-- feed of the desk; of the reference -/
theorem vz_K_d {s t : sx_S} (h : cx_F [(0, 1)] s t) (h2 : t.1 0 2 = s.1 0 2) (h3 : t.1 0 3 = s.1 0 3) : vz_K s t := fun _ => by
  have e66 := (h.same 66 rfl).1
  have big : ∀ p, 2 ≤ p → t.1 p = s.1 p ∧ t.2.1 p = s.2.1 p := fun p hp => (h p).1 (fun q hq => by
    simp only [List.mem_cons, List.not_mem_nil, or_false] at hq
    rcases hq with rfl
    dsimp only
    omega)
  exact ⟨⟨h2, h3, by rw [e66]⟩, fun p h1 _ => big p h1, fun _ b n l g => vk_LD_s (by rw [e66]) (by rw [e66]) (by rw [e66]) (by rw [e66]) (by rw [e66]) (fun p h1 _ _ => (big p (by omega)).2) (fun p j h1 _ _ => by rw [(big p (by omega)).2]) (fun j _ => by rw [(big 105 (by omega)).2]) g⟩
theorem vz_K_f {s t : sx_S} (h : cx_F [(66, 67)] s t) (hf : rf_f [1] s t) : vz_K s t := fun _ => by
  have e0 := (h.same 0 rfl).1
  have big : ∀ p, p ≠ 66 → p ≠ 67 → t.1 p = s.1 p ∧ t.2.1 p = s.2.1 p := fun p h6 h7 => (h p).1 (fun q hq => by
    simp only [List.mem_cons, List.not_mem_nil, or_false] at hq
    rcases hq with rfl
    dsimp only
    omega)
  exact ⟨⟨by rw [e0], by rw [e0], hf 37 rfl⟩, fun p _ _ => big p (by omega) (by omega), fun _ b n l g => vk_LD_s (hf 9 rfl) (hf 45 rfl) (hf 47 rfl) (hf 75 rfl) (hf 76 rfl) (fun p h1 _ _ => (big p (by omega) (by omega)).2) (fun p j h1 _ _ => by rw [(big p (by omega) (by omega)).2]) (fun j _ => by rw [(big 105 (by omega) (by omega)).2]) g⟩
/-- the reference writes what it shows -/
theorem vz_K_p {s t : sx_S} (h : rf_BC s) (p : t = s ∨ (s.1 66 78 ≠ 0 ∧ rf_PP s t)) : vz_K s t := by
  rcases p with rfl | ⟨_, ⟨_, a2, _, _⟩, p2, p3⟩
  · exact vz_K_0 _
  · intro _
    have e0 := (p2.same 0 rfl).1
    refine ⟨⟨by rw [e0], by rw [e0], p3 37 rfl⟩, fun p h1 h2 => (p2 p).1 (fun q hq => by
      simp only [List.mem_cons, List.not_mem_nil, or_false] at hq
      rcases hq with rfl | rfl | rfl <;> (dsimp only; omega)), fun h37 b n l g => ?_⟩
    obtain ⟨_, _, _, _, _, ⟨m1, m2, _⟩, _⟩ := h.2.1 h37
    refine vk_LD_s (p3 9 rfl) (p3 45 rfl) (p3 47 rfl) (p3 75 rfl) (p3 76 rfl) (fun p h1 h2 h3 => ((p2 p).1 (fun q hq => by
      simp only [List.mem_cons, List.not_mem_nil, or_false] at hq
      rcases hq with rfl | rfl | rfl <;> (dsimp only; omega))).2) (fun p j h1 h2 h3 => ?_) (fun j hj => (a2.2 j).2.1 (by omega)) g
    obtain ⟨d1, d2, d3, d4, d5⟩ := (a2.2 j).1 (by omega)
    have : p = 100 ∨ p = 101 ∨ p = 102 ∨ p = 103 ∨ p = 104 := by omega
    rcases this with rfl | rfl | rfl | rfl | rfl
    · exact d1
    · exact d2
    · exact d3
    · exact d4
    · exact d5
theorem px_A5_an {bb : Nat → Int} {n z h c m e : Int} (g : px_A5 bb n z h c m e) : px_an bb n z ∧ (z = 0 → h = 1) ∧ (z ≠ 0 → h = 0) := by
  rcases g with ⟨g1, g2, g3⟩ | ⟨l, g1, ⟨g2, g3, g4, _⟩ | ⟨g2, g3, g4⟩⟩
  · exact ⟨Or.inl ⟨g1, g2⟩, fun q => by omega, fun _ => g3⟩
  · exact ⟨Or.inr ⟨l, g1, Or.inl ⟨g2, g3⟩⟩, fun _ => g4, fun q => absurd g2 q⟩
  · exact ⟨Or.inr ⟨l, g1, Or.inr ⟨g2, g3⟩⟩, fun q => by omega, fun _ => g4⟩
