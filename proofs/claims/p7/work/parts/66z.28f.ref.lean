/-! ===== the reference: solve ===== -/
def rf_z8 (s : sx_S) : sx_S := (sx_uf (sx_uf (sx_uf (sx_uf (sx_uf (sx_uf (sx_uf (sx_uf s.1 66 50 (s.1 66 75)) 66 56 (s.1 66 76)) 66 58 (s.1 66 77)) 66 71 0) 66 61 0) 66 64 0) 66 70 0) 66 78 0, s.2)
theorem rf_z8_f {s : sx_S} : ((rf_z8 s).1 66 50 = s.1 66 75 ∧ (rf_z8 s).1 66 56 = s.1 66 76 ∧ (rf_z8 s).1 66 58 = s.1 66 77) ∧ ((rf_z8 s).1 66 71 = 0 ∧ (rf_z8 s).1 66 61 = 0 ∧ (rf_z8 s).1 66 64 = 0 ∧ (rf_z8 s).1 66 70 = 0 ∧ (rf_z8 s).1 66 78 = 0) ∧ ∀ k, k ≠ 50 → k ≠ 56 → k ≠ 58 → k ≠ 71 → k ≠ 61 → k ≠ 64 → k ≠ 70 → k ≠ 78 → (rf_z8 s).1 66 k = s.1 66 k := by
  refine ⟨⟨?_, ?_, ?_⟩, ⟨?_, ?_, ?_, ?_, ?_⟩, fun k h1 h2 h3 h4 h5 h6 h7 h8 => ?_⟩
  · simp [rf_z8, sx_uf_if]
  · simp [rf_z8, sx_uf_if]
  · simp [rf_z8, sx_uf_if]
  · simp [rf_z8, sx_uf_if]
  · simp [rf_z8, sx_uf_if]
  · simp [rf_z8, sx_uf_if]
  · simp [rf_z8, sx_uf_if]
  · simp [rf_z8, sx_uf_if]
  · simp [rf_z8, sx_uf_if, h1, h2, h3, h4, h5, h6, h7, h8]
/-- what stays of the loaded problem -/
def rf_Z (s t : sx_S) : Prop := (cx_F [(66, 66), (100, 122), (124, 124)] s t ∧ rf_f [50, 56, 58, 61, 64, 70, 71, 78, 79, 83, 86, 89] s t) ∧ (rf_ag 100 104 (s.1 66 50) s t ∧ rf_ag 105 105 (s.1 66 56) s t ∧ rf_ag 106 106 (s.1 66 58) s t) ∧ s.1 66 50 ≤ t.1 66 50 ∧ s.1 66 56 ≤ t.1 66 56 ∧ s.1 66 58 ≤ t.1 66 58
theorem rf_Z_trans {s t u : sx_S} (h2 : rf_Z t u) (h1 : rf_Z s t) : rf_Z s u := by
  obtain ⟨⟨a1, a2⟩, ⟨a3, a4, a5⟩, a6, a7, a8⟩ := h1
  obtain ⟨⟨b1, b2⟩, ⟨b3, b4, b5⟩, b6, b7, b8⟩ := h2
  exact ⟨⟨cx_F_step b1 rfl a1, rf_f_step b2 rfl a2⟩, ⟨rf_ag_trans b3 a6 a3, rf_ag_trans b4 a7 a4, rf_ag_trans b5 a8 a5⟩, by omega, by omega, by omega⟩
theorem rf_Z_FS {s t : sx_S} (h : rf_FS s t) : rf_Z s t := by
  obtain ⟨⟨a1, a2⟩, ⟨a3, a4, a5⟩, a6, a7, a8⟩ := h
  exact ⟨⟨cx_F_step a1 rfl (cx_F_refl _ _), rf_f_step a2 rfl (rf_f_refl _ _)⟩, ⟨a3, a4, a5⟩, a6, a7, a8⟩
theorem rf_Z_I1 {s u : sx_S} {k : Int} (h : rf_I1 s u k) : rf_Z s u := by
  obtain ⟨⟨a1, a2, a3⟩, _⟩ := h
  have e50 := a3 50 rfl
  have e56 := a3 56 rfl
  have e58 := a3 58 rfl
  exact ⟨⟨cx_F_step a2 rfl (cx_F_refl _ _), rf_f_step a3 rfl (rf_f_refl _ _)⟩, ⟨rf_ag_F a2 rfl (rf_ag_refl _ _ _ _), rf_ag_F a2 rfl (rf_ag_refl _ _ _ _), rf_ag_F a2 rfl (rf_ag_refl _ _ _ _)⟩, by omega, by omega, by omega⟩
theorem rf_Z_NU {s t : sx_S} {k : Int} (h : rf_NU s t k) : rf_Z s t := by
  obtain ⟨⟨a1, a2, a3, a4⟩, ⟨b1, b2⟩, c1, c2, c3, c4, c5⟩ := h
  refine ⟨⟨cx_F_step b1 rfl (cx_F_refl _ _), rf_f_step b2 rfl (rf_f_refl _ _)⟩, ⟨fun p j h1 h2 h3 => ?_, fun p j h1 h2 h3 => ?_, fun p j h1 h2 h3 => ?_⟩, c1.1, c2.1, c3.1⟩
  · obtain ⟨d1, d2, d3, d4, d5⟩ := (a2.2 j).1 h3
    have : p = 100 ∨ p = 101 ∨ p = 102 ∨ p = 103 ∨ p = 104 := by omega
    rcases this with rfl | rfl | rfl | rfl | rfl
    · exact d1
    · exact d2
    · exact d3
    · exact d4
    · exact d5
  · have : p = 105 := by omega
    subst this
    exact (a2.2 j).2.1 h3
  · have : p = 106 := by omega
    subst this
    exact (a2.2 j).2.2.1 h3
theorem rf_Z_uf {s : sx_S} {k : Nat} {v : Int} (hk : k = 78 ∨ k = 89) : rf_Z s (sx_uf s.1 66 k v, s.2) := by
  have e : ∀ q, q ≠ k → sx_uf s.1 66 k v 66 q = s.1 66 q := fun q hq => by rw [sx_uf_if, if_neg (fun c => hq c.2)]
  have e50 := e 50 (by omega)
  have e56 := e 56 (by omega)
  have e58 := e 58 (by omega)
  refine ⟨⟨?_, ?_⟩, ⟨rf_ag_refl _ _ _ s, rf_ag_refl _ _ _ s, rf_ag_refl _ _ _ s⟩, ?_, ?_, ?_⟩
  · rcases hk with rfl | rfl <;> exact cx_F_uf rfl (cx_F_refl _ _)
  · rcases hk with rfl | rfl <;> exact rf_f_uf rfl (rf_f_refl _ _)
  · exact Int.le_of_eq e50.symm
  · exact Int.le_of_eq e56.symm
  · exact Int.le_of_eq e58.symm
theorem rf_Z_xu {s t : sx_S} (h : rf_Z s t) : rf_xu s t := by
  obtain ⟨⟨a1, a2⟩, ⟨a3, a4, a5⟩, a6, a7, a8⟩ := h
  exact ⟨fun j => ⟨Int.le_of_eq (a2 9 rfl).symm, fun _ => ⟨by rw [(a1.same 72 rfl).2], by rw [(a1.same 73 rfl).2]⟩⟩, fun j => ⟨⟨a8, a7, a6, a2 42 rfl, a2 45 rfl⟩, fun hj => a5 106 j (by omega) (by omega) hj, fun hj => a4 105 j (by omega) (by omega) hj, fun hj => a3 104 j (by omega) (by omega) hj, by rw [(a1.same 96 rfl).2], by rw [(a1.same 123 rfl).2]⟩⟩
theorem rf_Z_ES {s t : sx_S} (h : rf_Z s t) (k : rf_ES s) : rf_ES t := rf_ES_up (fun p j h1 h2 h3 => h.2.1.1 p j h1 (by omega) h3) (rf_Z_xu h) (h.1.2 47 rfl) (h.1.1.same 98 rfl).2 (h.1.1.same 99 rfl).2 k
theorem rf_z8_Z {s : sx_S} : rf_f [50, 56, 58, 61, 64, 70, 71, 78] s (rf_z8 s) ∧ cx_F [(66, 66)] s (rf_z8 s) := by
  unfold rf_z8
  refine ⟨?_, ?_⟩
  · repeat (refine rf_f_uf rfl ?_)
    exact rf_f_refl _ _
  · repeat (refine cx_F_uf rfl ?_)
    exact cx_F_refl _ _
theorem rf_z8_I {s : sx_S} (hI : cx_I s) : cx_I (rf_z8 s) := by
  have r75 := hI.fld 66 75 (by decide) rfl
  have r76 := hI.fld 66 76 (by decide) rfl
  have r77 := hI.fld 66 77 (by decide) rfl
  unfold rf_z8
  refine cx_I_uf rfl rfl ?_ (by decide) (by decide)
  refine cx_I_uf rfl rfl ?_ (by decide) (by decide)
  refine cx_I_uf rfl rfl ?_ (by decide) (by decide)
  refine cx_I_uf rfl rfl ?_ (by decide) (by decide)
  refine cx_I_uf rfl rfl ?_ (by decide) (by decide)
  refine cx_I_uf rfl rfl ?_ (by omega) (by omega)
  refine cx_I_uf rfl rfl ?_ (by omega) (by omega)
  refine cx_I_uf rfl rfl ?_ (by omega) (by omega)
  exact hI
theorem rf_z8_xu {s : sx_S} : rf_xu (rf_l0 s) (rf_z8 s) := by
  obtain ⟨l1, l2, l3, l4, _⟩ := rf_l0_f (s := s)
  obtain ⟨⟨z1, z2, z3⟩, _, z4⟩ := rf_z8_f (s := s)
  have e9 : (rf_z8 s).1 66 9 = (rf_l0 s).1 66 9 := (z4 9 (by decide) (by decide) (by decide) (by decide) (by decide) (by decide) (by decide) (by decide)).trans (l4 9 (by decide) (by decide) (by decide)).symm
  have e42 : (rf_z8 s).1 66 42 = (rf_l0 s).1 66 42 := (z4 42 (by decide) (by decide) (by decide) (by decide) (by decide) (by decide) (by decide) (by decide)).trans (l4 42 (by decide) (by decide) (by decide)).symm
  have e45 : (rf_z8 s).1 66 45 = (rf_l0 s).1 66 45 := (z4 45 (by decide) (by decide) (by decide) (by decide) (by decide) (by decide) (by decide) (by decide)).trans (l4 45 (by decide) (by decide) (by decide)).symm
  exact ⟨fun j => ⟨Int.le_of_eq e9.symm, fun _ => ⟨rfl, rfl⟩⟩, fun j => ⟨⟨by omega, by omega, by omega, e42, e45⟩, fun _ => rfl, fun _ => rfl, fun _ => rfl, rfl, rfl⟩⟩
theorem rf_z8_ES {s : sx_S} (h : rf_ES (rf_l0 s)) : rf_ES (rf_z8 s) := by
  obtain ⟨l1, l2, l3, l4, _⟩ := rf_l0_f (s := s)
  obtain ⟨⟨z1, z2, z3⟩, _, z4⟩ := rf_z8_f (s := s)
  exact rf_ES_up (s := rf_l0 s) (t := rf_z8 s) (fun _ _ _ _ _ => rfl) rf_z8_xu ((z4 47 (by decide) (by decide) (by decide) (by decide) (by decide) (by decide) (by decide) (by decide)).trans (l4 47 (by decide) (by decide) (by decide)).symm) rfl rfl h
theorem rf_t5_9 {s t : sx_S} {T : Int} (h9 : t.1 66 9 = s.1 66 9) (h72 : t.2.1 72 = s.2.1 72) (h73 : t.2.1 73 = s.2.1 73) (h : rf_t5 s T) : rf_t5 t T := by
  obtain ⟨x, h1, h2⟩ := h
  refine ⟨x, ?_, h2⟩
  unfold rf_is at h1 ⊢
  rw [h72, h73, h9]
  exact h1
/-- the loaded problem stays -/
theorem rf_Z_LD {s t : sx_S} (hL : rf_LD s) (h : rf_Z (rf_z8 s) t) : rf_LD t := by
  obtain ⟨⟨hE, hC⟩, h75, h76, h77, h9, _, h34⟩ := hL
  obtain ⟨⟨z1, z2, z3⟩, _, z4⟩ := rf_z8_f (s := s)
  obtain ⟨l1, l2, l3, l4, _⟩ := rf_l0_f (s := s)
  obtain ⟨m1, m2, m3, m4, _⟩ := rf_l0_f (s := t)
  obtain ⟨⟨a1, a2⟩, ⟨a3, a4, a5⟩, a6, a7, a8⟩ := h
  have Z : ∀ k, k ≠ 50 → k ≠ 56 → k ≠ 58 → k ≠ 71 → k ≠ 61 → k ≠ 64 → k ≠ 70 → k ≠ 78 → k ≠ 79 → k ≠ 83 → k ≠ 86 → k ≠ 89 → t.1 66 k = s.1 66 k := fun k h1 h2 h3 h4 h5 h6 h7 h8 h9 h10 h11 h12 => (a2 k (by simp [h1, h2, h3, h4, h5, h6, h7, h8, h9, h10, h11, h12])).trans (z4 k h1 h2 h3 h4 h5 h6 h7 h8)
  have t9 : t.1 66 9 = s.1 66 9 := Z 9 (by decide) (by decide) (by decide) (by decide) (by decide) (by decide) (by decide) (by decide) (by decide) (by decide) (by decide) (by decide)
  have t42 : t.1 66 42 = s.1 66 42 := Z 42 (by decide) (by decide) (by decide) (by decide) (by decide) (by decide) (by decide) (by decide) (by decide) (by decide) (by decide) (by decide)
  have t45 : t.1 66 45 = s.1 66 45 := Z 45 (by decide) (by decide) (by decide) (by decide) (by decide) (by decide) (by decide) (by decide) (by decide) (by decide) (by decide) (by decide)
  have t47 : t.1 66 47 = s.1 66 47 := Z 47 (by decide) (by decide) (by decide) (by decide) (by decide) (by decide) (by decide) (by decide) (by decide) (by decide) (by decide) (by decide)
  have t34 : t.1 66 34 = s.1 66 34 := Z 34 (by decide) (by decide) (by decide) (by decide) (by decide) (by decide) (by decide) (by decide) (by decide) (by decide) (by decide) (by decide)
  have t75 : t.1 66 75 = s.1 66 75 := Z 75 (by decide) (by decide) (by decide) (by decide) (by decide) (by decide) (by decide) (by decide) (by decide) (by decide) (by decide) (by decide)
  have t76 : t.1 66 76 = s.1 66 76 := Z 76 (by decide) (by decide) (by decide) (by decide) (by decide) (by decide) (by decide) (by decide) (by decide) (by decide) (by decide) (by decide)
  have t77 : t.1 66 77 = s.1 66 77 := Z 77 (by decide) (by decide) (by decide) (by decide) (by decide) (by decide) (by decide) (by decide) (by decide) (by decide) (by decide) (by decide)
  have y9 : (rf_l0 t).1 66 9 = (rf_l0 s).1 66 9 := ((m4 9 (by decide) (by decide) (by decide)).trans t9).trans (l4 9 (by decide) (by decide) (by decide)).symm
  have y42 : (rf_l0 t).1 66 42 = (rf_l0 s).1 66 42 := ((m4 42 (by decide) (by decide) (by decide)).trans t42).trans (l4 42 (by decide) (by decide) (by decide)).symm
  have y45 : (rf_l0 t).1 66 45 = (rf_l0 s).1 66 45 := ((m4 45 (by decide) (by decide) (by decide)).trans t45).trans (l4 45 (by decide) (by decide) (by decide)).symm
  have y47 : (rf_l0 t).1 66 47 = (rf_l0 s).1 66 47 := ((m4 47 (by decide) (by decide) (by decide)).trans t47).trans (l4 47 (by decide) (by decide) (by decide)).symm
  have y34 : (rf_l0 t).1 66 34 = (rf_l0 s).1 66 34 := ((m4 34 (by decide) (by decide) (by decide)).trans t34).trans (l4 34 (by decide) (by decide) (by decide)).symm
  have s34 := l4 34 (by decide) (by decide) (by decide)
  have u72 : (rf_l0 t).2.1 72 = (rf_l0 s).2.1 72 := (a1.same 72 rfl).2
  have u73 : (rf_l0 t).2.1 73 = (rf_l0 s).2.1 73 := (a1.same 73 rfl).2
  have u96 : (rf_l0 t).2.1 96 = (rf_l0 s).2.1 96 := (a1.same 96 rfl).2
  have u123 : (rf_l0 t).2.1 123 = (rf_l0 s).2.1 123 := (a1.same 123 rfl).2
  have u98 : (rf_l0 t).2.1 98 = (rf_l0 s).2.1 98 := (a1.same 98 rfl).2
  have u99 : (rf_l0 t).2.1 99 = (rf_l0 s).2.1 99 := (a1.same 99 rfl).2
  have hxu : rf_xu (rf_l0 s) (rf_l0 t) := ⟨fun j => ⟨Int.le_of_eq y9.symm, fun _ => ⟨by rw [u72], by rw [u73]⟩⟩, fun j => ⟨⟨by omega, by omega, by omega, y42, y45⟩, fun hj => a5 106 j (by omega) (by omega) (by omega), fun hj => a4 105 j (by omega) (by omega) (by omega), fun hj => a3 104 j (by omega) (by omega) (by omega), by rw [u96], by rw [u123]⟩⟩
  refine ⟨⟨rf_ES_up (s := rf_l0 s) (t := rf_l0 t) (fun p j h1 h2 h3 => a3 p j h1 (by omega) (by omega)) hxu y47 u98 u99 hE, fun k => ⟨fun hk => ?_, fun hk => ?_, fun hk => absurd hk (by omega)⟩⟩, by omega, by omega, by omega, by omega, by omega, by omega⟩
  · rw [u96]
    exact rf_t5_9 y9 u72 u73 ((hC k).1 (by omega))
  · rw [u123]
    exact rf_t5_9 y9 u72 u73 ((hC k).2.1 (by omega))
/-- the state while the equations are solved -/
def rf_I3 (s u : sx_S) (k : Int) : Prop := ∃ g : rf_Gh, (cx_I u ∧ rf_MI (u.1 66 71) (u.1 66 58) u g ∧ rf_ph u g ≤ 1150 ∧ rf_RM 0 u) ∧ rf_UK u ∧ rf_Z s u ∧ (u.1 66 71 + 2700 * (rf_qu u : Int) ≤ 2700 * (25 + k) ∧ u.1 66 58 + 2700 * (rf_qu u : Int) ≤ 11000 + 2700 * (25 + k)) ∧ u.1 66 78 = 0
theorem rf_mul_bd {a b p : Nat} (hb : b ≤ a) (hp : p ≤ 2700) : max 1 (a - b) * p + 2700 * b ≤ 2700 + 2700 * a := by
  have h1 : max 1 (a - b) ≤ 1 + (a - b) := by omega
  have h2 : max 1 (a - b) * p ≤ (1 + (a - b)) * 2700 := Nat.mul_le_mul h1 hp
  omega
theorem rf_I3_s {s u t : sx_S} {g : rf_Gh} {k z : Int} {p : Nat} (hp : p ≤ 2700) (h1 : rf_UK u) (h2 : rf_Z s u) (h3 : u.1 66 71 + 2700 * (rf_qu u : Int) ≤ 2700 * (25 + k) ∧ u.1 66 58 + 2700 * (rf_qu u : Int) ≤ 11000 + 2700 * (25 + k)) (h8 : u.1 66 78 = 0) (h : rf_PU u t g z p) (hz : z ≠ 0) : rf_I3 s t (k + 1) := by
  obtain ⟨_, c1, c2, c3⟩ := h
  obtain ⟨g', d1, d2, _, ⟨d3, d4, d5⟩, d6, d7, _⟩ := c3 hz
  have hm := rf_mul_bd d5 hp
  have hz' := rf_Z_FS c2
  refine ⟨g', ⟨c1, d1, d3, d4⟩, rf_UK_up d2 (hz'.1.2 45 rfl) (hz'.1.1.same 123 rfl).2 h1, rf_Z_trans hz' h2, ⟨?_, ?_⟩, (c2.1.2 78 rfl).trans h8⟩
  · omega
  · omega
theorem rf_I1_I3 {s u : sx_S} (hs : (0 ≤ s.1 66 50 ∧ s.1 66 50 ≤ 22000) ∧ (0 ≤ s.1 66 56 ∧ s.1 66 56 ≤ 11000) ∧ (0 ≤ s.1 66 58 ∧ s.1 66 58 ≤ 11000)) (h71 : s.1 66 71 = 0) (h70 : s.1 66 70 = 0) (h78 : s.1 66 78 = 0) (h45 : 0 ≤ s.1 66 45 ∧ s.1 66 45 ≤ 5) (h : rf_I1 s u (s.1 66 45)) : rf_I3 s u 0 := by
  have hb := rf_I1_bd h45 h
  have hM := rf_I1_MI (nb := u.1 66 71) (ib := u.1 66 58) h
  have hU := rf_I1_UK h
  have hZ := rf_Z_I1 h
  obtain ⟨⟨a1, a2, a3⟩, a4, a5, a6⟩ := h
  have e50 := a3 50 rfl
  have e56 := a3 56 rfl
  have e58 := a3 58 rfl
  have e70 := a3 70 rfl
  have e71 := a3 71 rfl
  exact ⟨rf_g0 u, ⟨a1, hM, hb.1, by omega, by omega, by omega, by omega, by omega, by omega⟩, hU, hZ, by omega, (a3 78 rfl).trans h78⟩
/-- what solve leaves -/
def rf_SO (s t : sx_S) : Prop := (cx_I t ∧ cx_F [(66, 66), (100, 122), (124, 124)] s t ∧ rf_f [50, 56, 58, 61, 64, 70, 71, 78, 79, 83, 86, 89] s t) ∧ rf_LD t ∧ (t.1 66 78 ≠ 0 → ∃ g, rf_HS t g)
theorem rf_SO_no {s t : sx_S} (hL : rf_LD s) (hI : cx_I t) (h : rf_Z (rf_z8 s) t) (h78 : t.1 66 78 = 0 ∨ ∃ g, rf_HS t g) : rf_SO s t := by
  obtain ⟨f1, f2⟩ := rf_z8_Z (s := s)
  exact ⟨⟨hI, cx_F_step h.1.1 rfl (cx_F_step f2 rfl (cx_F_refl _ _)), rf_f_step h.1.2 rfl (rf_f_step f1 rfl (rf_f_refl _ _))⟩, rf_Z_LD hL h, fun c => h78.elim (fun q => absurd q c) id⟩
theorem rf_EX_u1 {nb ib v : Int} {k : Nat} {s : sx_S} (hk : k = 78 ∨ k = 89) : rf_EX nb ib s (sx_uf s.1 66 k v, s.2) ∧ rf_NC s (sx_uf s.1 66 k v, s.2) ∧ (rf_OD s → rf_OD (sx_uf s.1 66 k v, s.2)) := by
  have e : ∀ q, q ≠ k → sx_uf s.1 66 k v 66 q = s.1 66 q := fun q hq => by rw [sx_uf_if, if_neg (fun c => hq c.2)]
  exact ⟨⟨⟨⟨e 9 (by omega), rfl, rfl, rfl, e 42 (by omega)⟩, Int.le_of_eq (e 50 (by omega)).symm, Int.le_of_eq (e 56 (by omega)).symm, Int.le_of_eq (e 61 (by omega)).symm, Int.le_of_eq (e 64 (by omega)).symm, Int.le_of_eq (e 70 (by omega)).symm⟩, fun _ => ⟨fun _ => ⟨rfl, rfl, rfl, rfl, rfl⟩, fun _ => rfl, fun _ => rfl, fun _ => ⟨rfl, rfl, fun _ => ⟨rfl, rfl, rfl, rfl⟩⟩, fun _ => rfl, fun _ => ⟨rfl, rfl, rfl⟩⟩⟩, ⟨e 61 (by omega), fun _ _ => rfl⟩, fun h => rf_OD_same h (e 61 (by omega)) (e 83 (by omega)) (e 79 (by omega)) (fun _ _ => rfl)⟩
theorem c_r_solve {sL : Nat} {sx : Nat → Int32} (hsL : sL ≤ 3072) (d : Nat) (hd : 1700 ≤ d) : ∀ (s : sx_S) (K : Int → sx_S → Prop), cx_I s → (s.1 66 37 ≠ 0 → rf_LD s) → (∀ z t, (t = s ∨ (s.1 66 37 ≠ 0 ∧ rf_SO s t)) → K z t) → sx_C sL sx d 201 [.inr (.inl 66)] s K := by
  intro s K hI hLs hK
  obtain ⟨d, rfl⟩ : ∃ e, d = e + 2 := ⟨d - 2, by omega⟩
  have r45 := hI.fld 66 45 (by decide) rfl
  have r47 := hI.fld 66 47 (by decide) rfl
  obtain ⟨⟨z1, z2, z3⟩, ⟨z71, z61, z64, z70, z78⟩, z4⟩ := rf_z8_f (s := s)
  have z45 := z4 45 (by decide) (by decide) (by decide) (by decide) (by decide) (by decide) (by decide) (by decide)
  have z47 := z4 47 (by decide) (by decide) (by decide) (by decide) (by decide) (by decide) (by decide) (by decide)
  have z9 := z4 9 (by decide) (by decide) (by decide) (by decide) (by decide) (by decide) (by decide) (by decide)
  refine sx_methL (wr := true) (n := 400) (n' := 400) (stop := [(60, [0, 1]), (80, [0, 1, 2, 3]), (114, [0, 1]), (151, [0])]) (fun ms pc ls u => s.1 66 37 ≠ 0 ∧ ((pc = 60 ∧ ∃ k : Int, ls = [(0, .inr (.inl 66)), (1, .inl k)] ∧ (0 ≤ k ∧ k ≤ s.1 66 45) ∧ rf_I1 (rf_z8 s) u k ∧ (ms : Int) = 100 - 10 * k) ∨ (pc = 80 ∧ ∃ k x3 : Int, ls = [(0, .inr (.inl 66)), (1, .inl k), (2, .inl k), (3, .inl x3)] ∧ (0 ≤ k ∧ k < s.1 66 45) ∧ (0 ≤ x3 ∧ x3 ≤ 5999) ∧ rf_I2 (rf_z8 s) u k x3 ∧ (ms : Int) = 99 - 10 * k - u.2.1 108 k.toNat) ∨ (pc = 114 ∧ ∃ k : Int, ls = [(0, .inr (.inl 66)), (1, .inl k)] ∧ (0 ≤ k ∧ k ≤ s.1 66 47) ∧ rf_I3 (rf_z8 s) u k ∧ (ms : Int) = 40 - k) ∨ (pc = 151 ∧ ls = [(0, .inr (.inl 66))] ∧ rf_I3 (rf_z8 s) u (s.1 66 47) ∧ ms = 1))) hsL (e := eX12_solve) rfl ?_ ?_
  · refine w_solve hI (fun h37 => hK (-1) s (Or.inl rfl)) (fun h37 a b c ha hb hc => ⟨100, h37, Or.inl ⟨rfl, 0, rfl, by omega, ?_, by omega⟩⟩)
    subst ha hb hc
    show rf_I1 (rf_z8 s) (rf_z8 s) 0
    exact ⟨⟨rf_z8_I hI, cx_F_refl _ _, rf_f_refl _ _⟩, z61, by omega, fun r r0 r1 => absurd r1 (by omega)⟩
  · rintro ms pc ls u ⟨h37, h⟩
    have hLD := hLs h37
    have hL0 := hLD
    obtain ⟨⟨hE, hC⟩, h75, h76, h77, h9, _, h34⟩ := hL0
    have hES := rf_z8_ES hE
    rcases h with ⟨rfl, k, rfl, hk, hJ, hms⟩ | ⟨rfl, k, x3, rfl, hk, h3, hJ, hms⟩ | ⟨rfl, k, rfl, hk, hJ, hms⟩ | ⟨rfl, rfl, hJ, rfl⟩
    · -- 60
      have hJ0 := hJ
      obtain ⟨⟨a1, a2, a3⟩, a4, a5, a6⟩ := hJ0
      have e45 := a3 45 rfl
      have e123 : u.2.1 123 = (rf_z8 s).2.1 123 := (a2.same 123 rfl).2
      refine w_solve_60 (PN := fun z t => cx_I t ∧ t.2.1 123 = (rf_z8 s).2.1 123 ∧ z = k ∧ rf_I2 (rf_z8 s) t k ((rf_z8 s).2.1 123 k.toNat) ∧ t.2.1 108 k.toNat = 0) a1 (by omega) (fun hge => ⟨40, by omega, h37, Or.inr (Or.inr (Or.inl ⟨rfl, 0, rfl, by omega, ?_, by omega⟩))⟩) (fun hlt K' hK' => c_r_newMeta hsL (d + 1) (by omega) u K' a1 (by omega) (fun z t c1 c2 c3 c4 c5 c6 c7 c8 c9 => ?_)) (fun z t h => h.1) (fun hlt z t h x hx => ⟨ms - 1, by omega, h37, Or.inr (Or.inl ⟨rfl, k, x, ?_, by omega, ?_, ?_, ?_⟩)⟩)
      · refine rf_I1_I3 (by omega) z71 z70 z78 (by omega) ?_
        rw [show (rf_z8 s).1 66 45 = k by omega]
        exact hJ
      · have ht5 : rf_t5 (rf_z8 s) ((rf_z8 s).2.1 123 k.toNat) := by
          obtain ⟨_, _, _, l4, _⟩ := rf_l0_f (s := s)
          have m9 := l4 9 (by decide) (by decide) (by decide)
          have m45 := l4 45 (by decide) (by decide) (by decide)
          exact rf_t5_9 (s := rf_l0 s) (by omega) rfl rfl ((hC k.toNat).2.1 (by omega))
        obtain ⟨q1, q2⟩ := rf_I2_0 hk.1 hJ ht5 c1 c2 c3 c4 c5 c6 c7 c8 c9
        refine hK' z t ⟨c1, (c2.same 123 rfl).2.trans e123, q1, q2, ?_⟩
        rw [← q1]
        exact c7
      · rw [h.2.2.1]
      · have := h.1.arr 123 (by decide) rfl k.toNat
        omega
      · rw [hx, h.2.1]
        exact h.2.2.2.1
      · rw [h.2.2.2.2]
        omega
    · -- 80
      have hJ0 := hJ
      obtain ⟨⟨a1, a2, a3⟩, a4, a5, a6, a7, x, y, D, ⟨b1, b2, b3⟩, b4, b5, b6⟩ := hJ0
      have r108 := a1.arr 108 (by decide) rfl k.toNat
      have r72 := a1.arr 72 (by decide) rfl x3.toNat
      refine w_solve_80 (PA := fun t => cx_I t ∧ rf_I2 (rf_z8 s) t k (t.2.1 73 x3.toNat) ∧ t.2.1 108 k.toNat = u.2.1 108 k.toNat + 1) a1 (by omega) h3 (fun h1 q hq => ⟨(100 - 10 * q).toNat, by omega, h37, Or.inl ⟨rfl, q, rfl, by omega, ?_, by omega⟩⟩) (fun h1 a ha K' hK' => c_r_addType hsL (d + 1) (by omega) k a u K' a1 (by omega) (by omega) (by omega) ?_ (fun z t c1 c2 c3 c4 c5 c6 c7 c8 => hK' z t ⟨c1, rf_I2_s hk.1 h1 hJ ha c1 c2 c3 c4 c5 c6 c7 c8, c8⟩)) (fun t h => h.1) (fun h1 t h q hq => ⟨ms - 1, by omega, h37, Or.inr (Or.inl ⟨rfl, k, q, rfl, hk, ?_, ?_, ?_⟩)⟩)
      · rw [hq]
        exact rf_I2_e hk.1 h1 hJ
      · cases y with
        | leaf =>
          have : 0 ≤ x3 ∧ x3 < 2 := b3
          omega
        | inner n uu vv A B =>
          have l1 := rf_args_at x
          rw [b4, List.length_append] at l1
          have l2 : (rf_args (.inner n uu vv A B)).length = (rf_args B).length + 1 := rfl
          omega
      · have := h.1.arr 73 (by decide) rfl x3.toNat
        omega
      · rw [hq]
        exact h.2.1
      · rw [h.2.2]
        have r108t := h.1.arr 108 (by decide) rfl k.toNat
        omega
    · -- 114
      obtain ⟨g, ⟨u1, u2, u3, u4⟩, u5, u6, u7, u8⟩ := hJ
      have e47 := u6.1.2 47 rfl
      have r70 := u4.2.2.2.2.2
      have hESu := rf_Z_ES u6 hES
      refine w_solve_114 (PU := fun z t => ∃ p : Nat, p ≤ 2700 ∧ rf_PU u t g z p) u1 (by omega) (fun hge => ⟨1, by omega, h37, Or.inr (Or.inr (Or.inr ⟨rfl, rfl, ?_, rfl⟩))⟩) (fun hlt a b ha hb K' hK' => ?_) (fun z t ⟨_, _, h⟩ => h.1) (fun z t h hz => hK 1 t (Or.inr ⟨h37, ?_⟩)) (fun hlt z t h hz y hy => ⟨ms - 1, by omega, h37, Or.inr (Or.inr (Or.inl ⟨rfl, y, rfl, by omega, ?_, by omega⟩))⟩)
      · rw [show s.1 66 47 = k by omega]
        exact ⟨g, ⟨u1, u2, u3, u4⟩, u5, u6, u7, u8⟩
      · obtain ⟨x, hx1, hx2⟩ := hESu k.toNat (by omega)
        obtain ⟨A, hA, _⟩ := rf_EQ_RT u2 u5 r70 hx1
        obtain ⟨B, hB, _⟩ := rf_EQ_RT u2 u5 r70 hx2
        have wA := hA.2.2.1
        have wB := hB.2.2.1
        have hq : rf_qu u ≤ 100 := by
          have := u4.2.2.2.2.1
          omega
        have hmm : (rf_qu u + 1) * (1150 + (rf_wh A).1 + (1150 + (rf_wh B).1)) ≤ (rf_qu u + 1) * 2700 := Nat.mul_le_mul (Nat.le_refl _) (by omega)
        have r71 := u1.fld 66 71 (by decide) rfl
        have r58 := u1.fld 66 58 (by decide) rfl
        rw [ha, hb]
        exact c_r_unify hsL 1350 (d + 1) (by omega) _ _ A B .leaf .leaf x [] [] (1150 + (rf_wh A).1) (1150 + (rf_wh B).1) _ _ _ _ u g K' u1 u2 u3 u4 hA hB (by omega) (by omega) (by omega) (by omega) (fun z t h => hK' z t ⟨_, by omega, h⟩)
      · obtain ⟨p, _, hp⟩ := h
        have hZt := rf_Z_trans (rf_Z_FS hp.2.2.1) u6
        refine rf_SO_no hLD hp.2.1 hZt (Or.inl ?_)
        exact (hp.2.2.1.1.2 78 rfl).trans u8
      · obtain ⟨p, hp0, hp⟩ := h
        rw [hy]
        exact rf_I3_s hp0 u5 u6 u7 u8 hp hz
    · -- 151
      obtain ⟨g, ⟨u1, u2, u3, u4⟩, u5, u6, u7, u8⟩ := hJ
      have hESu := rf_Z_ES u6 hES
      have e9 := u6.1.2 9 rfl
      have e45 := u6.1.2 45 rfl
      have e47 := u6.1.2 47 rfl
      have hI1 : cx_I (sx_uf u.1 66 78 1, u.2) := cx_I_uf rfl rfl u1 (by decide) (by decide)
      obtain ⟨E1, N1, _⟩ := rf_EX_u1 (nb := u.1 66 71) (ib := u.1 66 58) (v := 1) (s := u) (k := 78) (Or.inl rfl)
      have M1 := rf_NC_MI E1 N1 (Int.le_refl _) (Int.le_refl _) u2
      have P1 : rf_ph (sx_uf u.1 66 78 1, u.2) g ≤ 1150 := by
        rw [rf_NC_ph E1 N1]
        exact u3
      have e : ∀ q, q ≠ 78 → sx_uf u.1 66 78 1 66 q = u.1 66 q := fun q hq => by rw [sx_uf_if, if_neg (fun c => hq c.2)]
      have n50 := e 50 (by decide)
      have n56 := e 56 (by decide)
      have n58 := e 58 (by decide)
      have n61 := e 61 (by decide)
      have n70 := e 70 (by decide)
      have n71 := e 71 (by decide)
      have n45 := e 45 (by decide)
      have n47 := e 47 (by decide)
      have n9 := e 9 (by decide)
      have hRM := u4
      obtain ⟨R1, R2, R3, R4, R5, R6⟩ := hRM
      have hUK := u5.1
      refine w_solve_151 (PW := fun t => rf_SO s t) (fun K' hK' => c_r_number hsL (d + 1) (by omega) (u.1 66 71) (u.1 66 58) _ g K' hI1 M1 ⟨by dsimp only; omega, by dsimp only; omega⟩ P1 ⟨by dsimp only; omega, by dsimp only; omega⟩ (by dsimp only; omega) ⟨by dsimp only; omega, by dsimp only; omega⟩ (by dsimp only; omega) ⟨by dsimp only; omega, by dsimp only; omega⟩ (by dsimp only; omega) (by dsimp only; omega) ?_) (fun t h => hK 0 t (Or.inr ⟨h37, h⟩))
      rintro z t ⟨t', hN, rfl⟩
      refine hK' z _ ?_
      have Z2 := rf_Z_NU hN
      have Z3 : rf_Z t' (sx_uf t'.1 66 89 0, t'.2) := rf_Z_uf (Or.inr rfl)
      have Z1 : rf_Z u (sx_uf u.1 66 78 1, u.2) := rf_Z_uf (Or.inl rfl)
      have Zu := rf_Z_trans Z3 (rf_Z_trans Z2 Z1)
      have Zt := rf_Z_trans Zu u6
      have hN0 := hN
      obtain ⟨⟨a1, a2, a3, a4⟩, ⟨b1, b2⟩, c1, c2, c3, c4, c5⟩ := hN0
      obtain ⟨E3, N3, O3⟩ := rf_EX_u1 (nb := t'.1 66 71) (ib := t'.1 66 58) (v := 0) (s := t') (k := 89) (Or.inr rfl)
      have f : ∀ q, q ≠ 89 → sx_uf t'.1 66 89 0 66 q = t'.1 66 q := fun q hq => by rw [sx_uf_if, if_neg (fun c => hq c.2)]
      have m50 := f 50 (by decide)
      have m56 := f 56 (by decide)
      have m58 := f 58 (by decide)
      have m61 := f 61 (by decide)
      have m70 := f 70 (by decide)
      have m71 := f 71 (by decide)
      have m45 := f 45 (by decide)
      have m47 := f 47 (by decide)
      have m9 := f 9 (by decide)
      have g61 := b2 61 rfl
      have g70 := b2 70 rfl
      have g45 := b2 45 rfl
      have g47 := b2 47 rfl
      have g9 := b2 9 rfl
      dsimp only at c1 c2 c3 c4 c5 g61 g70 g45 g47 g9
      have hIt : cx_I (sx_uf t'.1 66 89 0, t'.2) := cx_I_uf rfl rfl a1 (by decide) (by decide)
      have Mt' : rf_MI (t'.1 66 71) (t'.1 66 58) t' g := rf_NC_MI (rf_EX_le a2 (by dsimp only; omega) (by dsimp only; omega)) a3 (by omega) (by omega) M1
      have Mt : rf_MI (t'.1 66 71) (t'.1 66 58) (sx_uf t'.1 66 89 0, t'.2) g := rf_NC_MI E3 N3 (Int.le_refl _) (Int.le_refl _) Mt'
      have Ut' : rf_UK t' := rf_UK_up a2 (b2 45 rfl) (b1.same 123 rfl).2 (rf_UK_up E1 n45 rfl u5)
      have Ut : rf_UK (sx_uf t'.1 66 89 0, t'.2) := rf_UK_up E3 m45 rfl Ut'
      have ESt := rf_Z_ES Zu hESu
      have pht : rf_ph (sx_uf t'.1 66 89 0, t'.2) g ≤ 1150 := by
        rw [rf_NC_ph E3 N3, rf_NC_ph a2 a3]
        exact P1
      have h70t : 0 ≤ ((sx_uf t'.1 66 89 0, t'.2) : sx_S).1 66 70 := by
        dsimp only
        omega
      refine rf_SO_no hLD hIt Zt (Or.inr ⟨g, ⟨⟨hIt, ?_, Int.le_refl _, Int.le_refl _, pht⟩, ⟨h70t, by dsimp only; omega⟩, by dsimp only; omega, ⟨by dsimp only; omega, by dsimp only; omega⟩, ⟨by show sx_uf t'.1 66 89 0 66 50 ≤ 59950; omega, by dsimp only; omega⟩, O3 a4⟩, by dsimp only; omega, ⟨by dsimp only; omega, by dsimp only; omega, by dsimp only; omega, by dsimp only; omega⟩, fun k k0 k1 => ?_⟩)
      · show rf_MI (sx_uf t'.1 66 89 0 66 71) (sx_uf t'.1 66 89 0 66 58) _ g
        rw [m71, m58]
        exact Mt
      · obtain ⟨x, hx1, hx2⟩ := ESt k.toNat (by omega)
        obtain ⟨A, hA1, hA2⟩ := rf_EQ_RT Mt Ut h70t hx1
        obtain ⟨B, hB1, hB2⟩ := rf_EQ_RT Mt Ut h70t hx2
        exact ⟨⟨A, x, hA1, hA2⟩, ⟨B, x, hB1, hB2⟩⟩
