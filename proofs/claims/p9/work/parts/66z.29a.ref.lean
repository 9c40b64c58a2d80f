/-! ===== the reference: the state between calls ===== -/
/-- what holds between calls -/
def rf_BC (s : sx_S) : Prop := cx_I s ∧ (s.1 66 37 ≠ 0 → rf_LD s) ∧ (s.1 66 78 ≠ 0 → ∃ g, rf_HS s g)
theorem rf_RT_up {s t : sx_S} {g : rf_Gh} (hE : rf_EX (s.1 66 71) (s.1 66 58) s t) (e71 : t.1 66 71 = s.1 66 71) (e58 : t.1 66 58 = s.1 66 58) (hu : rf_Ub s g) {i : Int} (h : rf_RT s g i) : rf_RT t g i := by
  obtain ⟨A, x, k, hfo⟩ := h
  refine ⟨A, x, rf_CL_up hE (by omega) (by omega) (rf_EG_refl s g) hu k, fun v hv => hfo v ?_⟩
  exact (rf_Wd_up hE (fun r q r0 r1 hq => ⟨hq, hu r q r0 r1 hq⟩)).1 ((rf_bn_gn k.1.1).1 _ k.1.2.1) v hv
theorem rf_HS_up {s t : sx_S} {g : rf_Gh} (hI : cx_I t) (hE : rf_EX (s.1 66 71) (s.1 66 58) s t) (hN : rf_NC s t) (hO : rf_OD t) (e71 : t.1 66 71 = s.1 66 71) (e58 : t.1 66 58 = s.1 66 58) (e50 : t.1 66 50 = s.1 66 50) (e56 : t.1 66 56 = s.1 66 56) (e70 : t.1 66 70 = s.1 66 70) (e45 : t.1 66 45 = s.1 66 45) (e47 : t.1 66 47 = s.1 66 47) (e98 : t.2.1 98 = s.2.1 98) (e99 : t.2.1 99 = s.2.1 99) (h : rf_HS s g) : rf_HS t g := by
  obtain ⟨⟨⟨a1, a2, a3, a4, a5⟩, a6, a7, a8, a9, a10⟩, b1, b2, b3⟩ := h
  have e9 := hE.1.1.1
  have e61 := hN.1
  have hu : rf_Ub s g := fun r q h1 h2 h3 => (a2.1 r h1 h2).2.1 q h3
  have a9' : s.1 66 50 ≤ 59950 ∧ s.1 66 56 ≤ 119900 := a9
  refine ⟨⟨⟨hI, rf_NC_MI hE hN (by omega) (by omega) a2, Int.le_refl _, Int.le_refl _, by rw [rf_NC_ph hE hN]; exact a5⟩, by omega, by omega, by omega, ⟨by show t.1 66 50 ≤ 59950; omega, by omega⟩, hO⟩, by omega, by omega, fun k k0 k1 => ?_⟩
  obtain ⟨c1, c2⟩ := b3 k k0 (by omega)
  rw [e98, e99]
  exact ⟨rf_RT_up hE e71 e58 hu c1, rf_RT_up hE e71 e58 hu c2⟩
/-- what writing leaves, between calls -/
theorem rf_BC_PP {s t : sx_S} (h78 : s.1 66 78 ≠ 0) (h : rf_BC s) (p : rf_PP s t) : rf_BC t := by
  obtain ⟨hI, hL, hH⟩ := h
  obtain ⟨⟨p1, p2, p3, p4⟩, p5, p6⟩ := p
  have e50 := p6 50 rfl
  have e56 := p6 56 rfl
  have e58 := p6 58 rfl
  have e71 := p6 71 rfl
  have e37 := p6 37 rfl
  have e78 := p6 78 rfl
  refine ⟨p1, fun c => ?_, fun _ => ?_⟩
  · have hLs := hL (by omega)
    refine rf_Z_LD hLs ?_
    obtain ⟨_, h75, h76, h77, h9, ⟨q1, q2, q3⟩, h34⟩ := hLs
    obtain ⟨⟨z1, z2, z3⟩, _, z4⟩ := rf_z8_f (s := s)
    obtain ⟨_, fz⟩ := rf_z8_Z (s := s)
    have hFt : cx_F [(66, 66), (100, 122), (124, 124)] s t := cx_F_step p5 rfl (cx_F_refl _ _)
    refine ⟨⟨fun a => ⟨fun ha => ?_, ?_⟩, fun k hk => ?_⟩, ⟨fun a j h1 h2 h3 => ?_, fun a j h1 h2 h3 => ?_, fun a j h1 h2 h3 => ?_⟩, by omega, by omega, by omega⟩
    · have hz := (fz a).1 (fun q hq => by
        have hq' : q = (66, 66) := by simpa using hq
        rw [hq']
        exact ha (66, 66) (by simp))
      have ht := (hFt a).1 ha
      exact ⟨ht.1.trans hz.1.symm, ht.2.trans hz.2.symm⟩
    · exact (hFt a).2.trans (fz a).2.symm
    · simp only [List.contains_cons, List.contains_nil, Bool.or_eq_false_iff, beq_eq_false_iff_ne, ne_eq, and_true] at hk
      rw [z4 k (by omega) (by omega) (by omega) (by omega) (by omega) (by omega) (by omega) (by omega)]
      refine p6 k ?_
      simp only [List.contains_cons, List.contains_nil, Bool.or_eq_false_iff, beq_eq_false_iff_ne, ne_eq, and_true]
      omega
    · obtain ⟨d1, d2, d3, d4, d5⟩ := (p2.2 j).1 (by omega)
      have : a = 100 ∨ a = 101 ∨ a = 102 ∨ a = 103 ∨ a = 104 := by omega
      rcases this with rfl | rfl | rfl | rfl | rfl
      · exact d1
      · exact d2
      · exact d3
      · exact d4
      · exact d5
    · have : a = 105 := by omega
      subst this
      exact (p2.2 j).2.1 (by omega)
    · have : a = 106 := by omega
      subst this
      exact (p2.2 j).2.2.1 (by omega)
  · obtain ⟨g, hg⟩ := hH h78
    exact ⟨g, rf_HS_up p1 p2 p3 p4 e71 e58 e50 e56 (p6 70 rfl) (p6 45 rfl) (p6 47 rfl) (p5.same 98 rfl).2 (p5.same 99 rfl).2 hg⟩
/-- what the desk does, and what is fed, leaves it so -/
theorem rf_BC_k {s t : sx_S} (hI : cx_I t) (hF : cx_F [(0, 67)] s t) (hf : rf_f [1] s t) (h : rf_BC s) : rf_BC t := by
  obtain ⟨_, hL, hH⟩ := h
  have A : ∀ p, cx_outb [(0, 67)] p = true → t.2.1 p = s.2.1 p := fun p hp => (hF.same p hp).2
  have e37 := hf 37 rfl
  have e78 := hf 78 rfl
  have e50 := hf 50 rfl
  have e56 := hf 56 rfl
  have e58 := hf 58 rfl
  have e61 := hf 61 rfl
  have e64 := hf 64 rfl
  have e70 := hf 70 rfl
  have e71 := hf 71 rfl
  have e9 := hf 9 rfl
  have e42 := hf 42 rfl
  have e34 := hf 34 rfl
  have e45 := hf 45 rfl
  have e47 := hf 47 rfl
  have e75 := hf 75 rfl
  have e76 := hf 76 rfl
  have e77 := hf 77 rfl
  refine ⟨hI, fun c => ?_, fun c => ?_⟩
  · obtain ⟨⟨hE, hC⟩, h75, h76, h77, h9, hq, h34⟩ := hL (by omega)
    obtain ⟨l1, l2, l3, l4, _⟩ := rf_l0_f (s := s)
    obtain ⟨m1, m2, m3, m4, _⟩ := rf_l0_f (s := t)
    have Y : ∀ k, k ≠ 50 → k ≠ 56 → k ≠ 58 → t.1 66 k = s.1 66 k → (rf_l0 t).1 66 k = (rf_l0 s).1 66 k := fun k h1 h2 h3 h4 => ((m4 k h1 h2 h3).trans h4).trans (l4 k h1 h2 h3).symm
    have y9 := Y 9 (by decide) (by decide) (by decide) e9
    have y42 := Y 42 (by decide) (by decide) (by decide) e42
    have y45 := Y 45 (by decide) (by decide) (by decide) e45
    have y47 := Y 47 (by decide) (by decide) (by decide) e47
    have y34 := Y 34 (by decide) (by decide) (by decide) e34
    have s34 := l4 34 (by decide) (by decide) (by decide)
    have u72 : (rf_l0 t).2.1 72 = (rf_l0 s).2.1 72 := A 72 rfl
    have u73 : (rf_l0 t).2.1 73 = (rf_l0 s).2.1 73 := A 73 rfl
    have u96 : (rf_l0 t).2.1 96 = (rf_l0 s).2.1 96 := A 96 rfl
    have u123 : (rf_l0 t).2.1 123 = (rf_l0 s).2.1 123 := A 123 rfl
    have u104 : (rf_l0 t).2.1 104 = (rf_l0 s).2.1 104 := A 104 rfl
    have u105 : (rf_l0 t).2.1 105 = (rf_l0 s).2.1 105 := A 105 rfl
    have u106 : (rf_l0 t).2.1 106 = (rf_l0 s).2.1 106 := A 106 rfl
    have hxu : rf_xu (rf_l0 s) (rf_l0 t) := ⟨fun j => ⟨Int.le_of_eq y9.symm, fun _ => ⟨by rw [u72], by rw [u73]⟩⟩, fun j => ⟨⟨by omega, by omega, by omega, y42, y45⟩, fun _ => by rw [u106], fun _ => by rw [u105], fun _ => by rw [u104], by rw [u96], by rw [u123]⟩⟩
    refine ⟨⟨rf_ES_up (s := rf_l0 s) (t := rf_l0 t) (fun p j h1 h2 h3 => ?_) hxu y47 (A 98 rfl) (A 99 rfl) hE, fun k => ⟨fun hk => ?_, fun hk => ?_, fun hk => absurd hk (by omega)⟩⟩, by omega, by omega, by omega, by omega, by omega, by omega⟩
    · have : p = 100 ∨ p = 101 ∨ p = 102 ∨ p = 103 := by omega
      rcases this with rfl | rfl | rfl | rfl
      · exact congrFun (A 100 rfl) j
      · exact congrFun (A 101 rfl) j
      · exact congrFun (A 102 rfl) j
      · exact congrFun (A 103 rfl) j
    · rw [u96]
      exact rf_t5_9 y9 u72 u73 ((hC k).1 (by omega))
    · rw [u123]
      exact rf_t5_9 y9 u72 u73 ((hC k).2.1 (by omega))
  · obtain ⟨g, hg⟩ := hH (by omega)
    have hE : rf_EX (s.1 66 71) (s.1 66 58) s t := ⟨⟨⟨e9, A 72 rfl, A 73 rfl, A 96 rfl, e42⟩, by omega, by omega, by omega, by omega, by omega⟩, fun j => ⟨fun _ => ⟨congrFun (A 100 rfl) j, congrFun (A 101 rfl) j, congrFun (A 102 rfl) j, congrFun (A 103 rfl) j, congrFun (A 104 rfl) j⟩, fun _ => congrFun (A 105 rfl) j, fun _ => congrFun (A 106 rfl) j, fun _ => ⟨congrFun (A 108 rfl) j, congrFun (A 109 rfl) j, fun _ => ⟨congrFun (A 111 rfl) j, congrFun (A 112 rfl) j, congrFun (A 113 rfl) j, congrFun (A 114 rfl) j⟩⟩, fun _ => congrFun (A 110 rfl) j, fun _ => ⟨congrFun (A 115 rfl) j, congrFun (A 116 rfl) j, congrFun (A 117 rfl) j⟩⟩⟩
    have hN : rf_NC s t := ⟨e61, fun j _ => congrFun (A 111 rfl) j⟩
    have hO : rf_OD t := rf_OD_same hg.1.2.2.2.2.2 e61 (hf 83 rfl) (hf 79 rfl) (fun p hp => by
      rcases hp with rfl | rfl | rfl | rfl
      · exact A 108 rfl
      · exact A 118 rfl
      · exact A 120 rfl
      · exact A 121 rfl)
    exact ⟨g, rf_HS_up hI hE hN hO e71 e58 e50 e56 e70 e45 e47 (A 98 rfl) (A 99 rfl) hg⟩
theorem rf_BC_desk {V : List (Nat × Nat)} {s t : sx_S} (hI : cx_I t) (hF : cx_F V s t) (hV : cx_le V [(0, 65)] = true) (h : rf_BC s) : rf_BC t := by
  have hF1 : cx_F [(0, 65)] s t := cx_F_step hF hV (cx_F_refl _ _)
  have hF2 : cx_F [(0, 67)] s t := cx_F_step hF1 rfl (cx_F_refl _ _)
  exact rf_BC_k hI hF2 (fun k _ => by rw [(hF1.same 66 rfl).1]) h
/-- solve, between calls -/
theorem rf_BC_SO {s t : sx_S} (h : rf_BC s) (p : t = s ∨ (s.1 66 37 ≠ 0 ∧ rf_SO s t)) : rf_BC t := by
  rcases p with rfl | ⟨_, ⟨p1, _, _⟩, p4, p5⟩
  · exact h
  · exact ⟨p1, fun _ => p4, p5⟩
theorem rf_BC_P {s t : sx_S} (h : rf_BC s) (p : t = s ∨ (s.1 66 78 ≠ 0 ∧ rf_PP s t)) : rf_BC t := by
  rcases p with rfl | ⟨p1, p2⟩
  · exact h
  · exact rf_BC_PP p1 h p2
