/-! ===== the reference: solve ===== -/
def rf_z8 (s : sx_S) : sx_S := (sx_uf (sx_uf (sx_uf (sx_uf (sx_uf (sx_uf (sx_uf (sx_uf s.1 66 50 (s.1 66 75)) 66 56 (s.1 66 76)) 66 58 (s.1 66 77)) 66 71 0) 66 61 0) 66 64 0) 66 70 0) 66 78 0, s.2)
theorem rf_z8_f {s : sx_S} : ((rf_z8 s).1 66 50 = s.1 66 75 ∧ (rf_z8 s).1 66 56 = s.1 66 76 ∧ (rf_z8 s).1 66 58 = s.1 66 77) ∧ ((rf_z8 s).1 66 71 = 0 ∧ (rf_z8 s).1 66 61 = 0 ∧ (rf_z8 s).1 66 64 = 0 ∧ (rf_z8 s).1 66 70 = 0 ∧ (rf_z8 s).1 66 78 = 0) ∧ ∀ k, k ≠ 50 → k ≠ 56 → k ≠ 58 → k ≠ 71 → k ≠ 61 → k ≠ 64 → k ≠ 70 → k ≠ 78 → (rf_z8 s).1 66 k = s.1 66 k := by
  refine ⟨⟨?_, ?_, ?_⟩, ⟨?_, ?_, ?_, ?_, ?_⟩, fun k h1 h2 h3 h4 h5 h6 h7 h8 => ?_⟩
  · simp [rf_z8, sx_uf_if]
  · simp [rf_z8, sx_uf_if]
  · simp [rf_z8, sx_uf_if]
  · simp [rf_z8, sx_uf_if]
  · simp [rf_z8, sx_uf_if]
  · simp [rf_z8, sx_uf_if]
  · simp [rf_z8, sx_uf_if]
  · simp [rf_z8, sx_uf_if]
  · simp [rf_z8, sx_uf_if, h1, h2, h3, h4, h5, h6, h7, h8]
/-- what stays of the loaded problem -/
def rf_Z (s t : sx_S) : Prop := (cx_F [(66, 66), (100, 122), (124, 124)] s t ∧ rf_f [50, 56, 58, 61, 64, 70, 71, 78, 79, 83, 86, 89] s t) ∧ (rf_ag 100 104 (s.1 66 50) s t ∧ rf_ag 105 105 (s.1 66 56) s t ∧ rf_ag 106 106 (s.1 66 58) s t) ∧ s.1 66 50 ≤ t.1 66 50 ∧ s.1 66 56 ≤ t.1 66 56 ∧ s.1 66 58 ≤ t.1 66 58
theorem rf_Z_trans {s t u : sx_S} (h2 : rf_Z t u) (h1 : rf_Z s t) : rf_Z s u := by
  obtain ⟨⟨a1, a2⟩, ⟨a3, a4, a5⟩, a6, a7, a8⟩ := h1
  obtain ⟨⟨b1, b2⟩, ⟨b3, b4, b5⟩, b6, b7, b8⟩ := h2
  exact ⟨⟨cx_F_step b1 rfl a1, rf_f_step b2 rfl a2⟩, ⟨rf_ag_trans b3 a6 a3, rf_ag_trans b4 a7 a4, rf_ag_trans b5 a8 a5⟩, by omega, by omega, by omega⟩
theorem rf_Z_FS {s t : sx_S} (h : rf_FS s t) : rf_Z s t := by
  obtain ⟨⟨a1, a2⟩, ⟨a3, a4, a5⟩, a6, a7, a8⟩ := h
  exact ⟨⟨cx_F_step a1 rfl (cx_F_refl _ _), rf_f_step a2 rfl (rf_f_refl _ _)⟩, ⟨a3, a4, a5⟩, a6, a7, a8⟩
theorem rf_Z_I1 {s u : sx_S} {k : Int} (h : rf_I1 s u k) : rf_Z s u := by
  obtain ⟨⟨a1, a2, a3⟩, _⟩ := h
  have e50 := a3 50 rfl
  have e56 := a3 56 rfl
  have e58 := a3 58 rfl
  exact ⟨⟨cx_F_step a2 rfl (cx_F_refl _ _), rf_f_step a3 rfl (rf_f_refl _ _)⟩, ⟨rf_ag_F a2 rfl (rf_ag_refl _ _ _ _), rf_ag_F a2 rfl (rf_ag_refl _ _ _ _), rf_ag_F a2 rfl (rf_ag_refl _ _ _ _)⟩, by omega, by omega, by omega⟩
theorem rf_Z_NU {s t : sx_S} {k : Int} (h : rf_NU s t k) : rf_Z s t := by
  obtain ⟨⟨a1, a2, a3, a4⟩, ⟨b1, b2⟩, c1, c2, c3, c4, c5⟩ := h
  refine ⟨⟨cx_F_step b1 rfl (cx_F_refl _ _), rf_f_step b2 rfl (rf_f_refl _ _)⟩, ⟨fun p j h1 h2 h3 => ?_, fun p j h1 h2 h3 => ?_, fun p j h1 h2 h3 => ?_⟩, c1.1, c2.1, c3.1⟩
  · obtain ⟨d1, d2, d3, d4, d5⟩ := (a2.2 j).1 h3
    have : p = 100 ∨ p = 101 ∨ p = 102 ∨ p = 103 ∨ p = 104 := by omega
    rcases this with rfl | rfl | rfl | rfl | rfl
    · exact d1
    · exact d2
    · exact d3
    · exact d4
    · exact d5
  · have : p = 105 := by omega
    subst this
    exact (a2.2 j).2.1 h3
  · have : p = 106 := by omega
    subst this
    exact (a2.2 j).2.2.1 h3
theorem rf_Z_uf {s : sx_S} {k : Nat} {v : Int} (hk : k = 78 ∨ k = 89) : rf_Z s (sx_uf s.1 66 k v, s.2) := by
  have e : ∀ q, q ≠ k → sx_uf s.1 66 k v 66 q = s.1 66 q := fun q hq => by rw [sx_uf_if, if_neg (fun c => hq c.2)]
  have e50 := e 50 (by omega)
  have e56 := e 56 (by omega)
  have e58 := e 58 (by omega)
  refine ⟨⟨?_, ?_⟩, ⟨rf_ag_refl _ _ _ s, rf_ag_refl _ _ _ s, rf_ag_refl _ _ _ s⟩, ?_, ?_, ?_⟩
  · rcases hk with rfl | rfl <;> exact cx_F_uf rfl (cx_F_refl _ _)
  · rcases hk with rfl | rfl <;> exact rf_f_uf rfl (rf_f_refl _ _)
  · exact Int.le_of_eq e50.symm
  · exact Int.le_of_eq e56.symm
  · exact Int.le_of_eq e58.symm
theorem rf_Z_xu {s t : sx_S} (h : rf_Z s t) : rf_xu s t := by
  obtain ⟨⟨a1, a2⟩, ⟨a3, a4, a5⟩, a6, a7, a8⟩ := h
  exact ⟨fun j => ⟨Int.le_of_eq (a2 9 rfl).symm, fun _ => ⟨by rw [(a1.same 72 rfl).2], by rw [(a1.same 73 rfl).2]⟩⟩, fun j => ⟨⟨a8, a7, a6, a2 42 rfl, a2 45 rfl⟩, fun hj => a5 106 j (by omega) (by omega) hj, fun hj => a4 105 j (by omega) (by omega) hj, fun hj => a3 104 j (by omega) (by omega) hj, by rw [(a1.same 96 rfl).2], by rw [(a1.same 123 rfl).2]⟩⟩
theorem rf_Z_ES {s t : sx_S} (h : rf_Z s t) (k : rf_ES s) : rf_ES t := rf_ES_up (fun p j h1 h2 h3 => h.2.1.1 p j h1 (by omega) h3) (rf_Z_xu h) (h.1.2 47 rfl) (h.1.1.same 98 rfl).2 (h.1.1.same 99 rfl).2 k
theorem rf_z8_Z {s : sx_S} : rf_f [50, 56, 58, 61, 64, 70, 71, 78] s (rf_z8 s) ∧ cx_F [(66, 66)] s (rf_z8 s) := by
  unfold rf_z8
  refine ⟨?_, ?_⟩
  · repeat (refine rf_f_uf rfl ?_)
    exact rf_f_refl _ _
  · repeat (refine cx_F_uf rfl ?_)
    exact cx_F_refl _ _
theorem rf_z8_I {s : sx_S} (hI : cx_I s) : cx_I (rf_z8 s) := by
  have r75 := hI.fld 66 75 (by decide) rfl
  have r76 := hI.fld 66 76 (by decide) rfl
  have r77 := hI.fld 66 77 (by decide) rfl
  unfold rf_z8
  refine cx_I_uf rfl rfl ?_ (by decide) (by decide)
  refine cx_I_uf rfl rfl ?_ (by decide) (by decide)
  refine cx_I_uf rfl rfl ?_ (by decide) (by decide)
  refine cx_I_uf rfl rfl ?_ (by decide) (by decide)
  refine cx_I_uf rfl rfl ?_ (by decide) (by decide)
  refine cx_I_uf rfl rfl ?_ (by omega) (by omega)
  refine cx_I_uf rfl rfl ?_ (by omega) (by omega)
  refine cx_I_uf rfl rfl ?_ (by omega) (by omega)
  exact hI
theorem rf_z8_xu {s : sx_S} : rf_xu (rf_l0 s) (rf_z8 s) := by
  obtain ⟨l1, l2, l3, l4, _⟩ := rf_l0_f (s := s)
  obtain ⟨⟨z1, z2, z3⟩, _, z4⟩ := rf_z8_f (s := s)
  have e9 : (rf_z8 s).1 66 9 = (rf_l0 s).1 66 9 := (z4 9 (by decide) (by decide) (by decide) (by decide) (by decide) (by decide) (by decide) (by decide)).trans (l4 9 (by decide) (by decide) (by decide)).symm
  have e42 : (rf_z8 s).1 66 42 = (rf_l0 s).1 66 42 := (z4 42 (by decide) (by decide) (by decide) (by decide) (by decide) (by decide) (by decide) (by decide)).trans (l4 42 (by decide) (by decide) (by decide)).symm
  have e45 : (rf_z8 s).1 66 45 = (rf_l0 s).1 66 45 := (z4 45 (by decide) (by decide) (by decide) (by decide) (by decide) (by decide) (by decide) (by decide)).trans (l4 45 (by decide) (by decide) (by decide)).symm
  exact ⟨fun j => ⟨Int.le_of_eq e9.symm, fun _ => ⟨rfl, rfl⟩⟩, fun j => ⟨⟨by omega, by omega, by omega, e42, e45⟩, fun _ => rfl, fun _ => rfl, fun _ => rfl, rfl, rfl⟩⟩
theorem rf_z8_ES {s : sx_S} (h : rf_ES (rf_l0 s)) : rf_ES (rf_z8 s) := by
  obtain ⟨l1, l2, l3, l4, _⟩ := rf_l0_f (s := s)
  obtain ⟨⟨z1, z2, z3⟩, _, z4⟩ := rf_z8_f (s := s)
  exact rf_ES_up (s := rf_l0 s) (t := rf_z8 s) (fun _ _ _ _ _ => rfl) rf_z8_xu ((z4 47 (by decide) (by decide) (by decide) (by decide) (by decide) (by decide) (by decide) (by decide)).trans (l4 47 (by decide) (by decide) (by decide)).symm) rfl rfl h
theorem rf_t5_9 {s t : sx_S} {T : Int} (h9 : t.1 66 9 = s.1 66 9) (h72 : t.2.1 72 = s.2.1 72) (h73 : t.2.1 73 = s.2.1 73) (h : rf_t5 s T) : rf_t5 t T := by
  obtain ⟨x, h1, h2⟩ := h
  refine ⟨x, ?_, h2⟩
  unfold rf_is at h1 ⊢
  rw [h72, h73, h9]
  exact h1
/-- the loaded problem stays -/
theorem rf_Z_LD {s t : sx_S} (hL : rf_LD s) (h : rf_Z (rf_z8 s) t) : rf_LD t := by
  obtain ⟨⟨hE, hC⟩, h75, h76, h77, h9, _, h34⟩ := hL
  obtain ⟨⟨z1, z2, z3⟩, _, z4⟩ := rf_z8_f (s := s)
  obtain ⟨l1, l2, l3, l4, _⟩ := rf_l0_f (s := s)
  obtain ⟨m1, m2, m3, m4, _⟩ := rf_l0_f (s := t)
  obtain ⟨⟨a1, a2⟩, ⟨a3, a4, a5⟩, a6, a7, a8⟩ := h
  have Z : ∀ k, k ≠ 50 → k ≠ 56 → k ≠ 58 → k ≠ 71 → k ≠ 61 → k ≠ 64 → k ≠ 70 → k ≠ 78 → k ≠ 79 → k ≠ 83 → k ≠ 86 → k ≠ 89 → t.1 66 k = s.1 66 k := fun k h1 h2 h3 h4 h5 h6 h7 h8 h9 h10 h11 h12 => (a2 k (by simp [h1, h2, h3, h4, h5, h6, h7, h8, h9, h10, h11, h12])).trans (z4 k h1 h2 h3 h4 h5 h6 h7 h8)
  have t9 : t.1 66 9 = s.1 66 9 := Z 9 (by decide) (by decide) (by decide) (by decide) (by decide) (by decide) (by decide) (by decide) (by decide) (by decide) (by decide) (by decide)
  have t42 : t.1 66 42 = s.1 66 42 := Z 42 (by decide) (by decide) (by decide) (by decide) (by decide) (by decide) (by decide) (by decide) (by decide) (by decide) (by decide) (by decide)
  have t45 : t.1 66 45 = s.1 66 45 := Z 45 (by decide) (by decide) (by decide) (by decide) (by decide) (by decide) (by decide) (by decide) (by decide) (by decide) (by decide) (by decide)
  have t47 : t.1 66 47 = s.1 66 47 := Z 47 (by decide) (by decide) (by decide) (by decide) (by decide) (by decide) (by decide) (by decide) (by decide) (by decide) (by decide) (by decide)
  have t34 : t.1 66 34 = s.1 66 34 := Z 34 (by decide) (by decide) (by decide) (by decide) (by decide) (by decide) (by decide) (by decide) (by decide) (by decide) (by decide) (by decide)
  have t75 : t.1 66 75 = s.1 66 75 := Z 75 (by decide) (by decide) (by decide) (by decide) (by decide) (by decide) (by decide) (by decide) (by decide) (by decide) (by decide) (by decide)
  have t76 : t.1 66 76 = s.1 66 76 := Z 76 (by decide) (by decide) (by decide) (by decide) (by decide) (by decide) (by decide) (by decide) (by decide) (by decide) (by decide) (by decide)
  have t77 : t.1 66 77 = s.1 66 77 := Z 77 (by decide) (by decide) (by decide) (by decide) (by decide) (by decide) (by decide) (by decide) (by decide) (by decide) (by decide) (by decide)
  have y9 : (rf_l0 t).1 66 9 = (rf_l0 s).1 66 9 := ((m4 9 (by decide) (by decide) (by decide)).trans t9).trans (l4 9 (by decide) (by decide) (by decide)).symm
  have y42 : (rf_l0 t).1 66 42 = (rf_l0 s).1 66 42 := ((m4 42 (by decide) (by decide) (by decide)).trans t42).trans (l4 42 (by decide) (by decide) (by decide)).symm
  have y45 : (rf_l0 t).1 66 45 = (rf_l0 s).1 66 45 := ((m4 45 (by decide) (by decide) (by decide)).trans t45).trans (l4 45 (by decide) (by decide) (by decide)).symm
  have y47 : (rf_l0 t).1 66 47 = (rf_l0 s).1 66 47 := ((m4 47 (by decide) (by decide) (by decide)).trans t47).trans (l4 47 (by decide) (by decide) (by decide)).symm
  have y34 : (rf_l0 t).1 66 34 = (rf_l0 s).1 66 34 := ((m4 34 (by decide) (by decide) (by decide)).trans t34).trans (l4 34 (by decide) (by decide) (by decide)).symm
  have s34 := l4 34 (by decide) (by decide) (by decide)
  have u72 : (rf_l0 t).2.1 72 = (rf_l0 s).2.1 72 := (a1.same 72 rfl).2
  have u73 : (rf_l0 t).2.1 73 = (rf_l0 s).2.1 73 := (a1.same 73 rfl).2
  have u96 : (rf_l0 t).2.1 96 = (rf_l0 s).2.1 96 := (a1.same 96 rfl).2
  have u123 : (rf_l0 t).2.1 123 = (rf_l0 s).2.1 123 := (a1.same 123 rfl).2
  have u98 : (rf_l0 t).2.1 98 = (rf_l0 s).2.1 98 := (a1.same 98 rfl).2
  have u99 : (rf_l0 t).2.1 99 = (rf_l0 s).2.1 99 := (a1.same 99 rfl).2
  have hxu : rf_xu (rf_l0 s) (rf_l0 t) := ⟨fun j => ⟨Int.le_of_eq y9.symm, fun _ => ⟨by rw [u72], by rw [u73]⟩⟩, fun j => ⟨⟨by omega, by omega, by omega, y42, y45⟩, fun hj => a5 106 j (by omega) (by omega) (by omega), fun hj => a4 105 j (by omega) (by omega) (by omega), fun hj => a3 104 j (by omega) (by omega) (by omega), by rw [u96], by rw [u123]⟩⟩
  refine ⟨⟨rf_ES_up (s := rf_l0 s) (t := rf_l0 t) (fun p j h1 h2 h3 => a3 p j h1 (by omega) (by omega)) hxu y47 u98 u99 hE, fun k => ⟨fun hk => ?_, fun hk => ?_, fun hk => absurd hk (by omega)⟩⟩, by omega, by omega, by omega, by omega, by omega, by omega⟩
  · rw [u96]
    exact rf_t5_9 y9 u72 u73 ((hC k).1 (by omega))
  · rw [u123]
    exact rf_t5_9 y9 u72 u73 ((hC k).2.1 (by omega))
theorem rf_mul_bd {a b p : Nat} (hb : b ≤ a) (hp : p ≤ 2700) : max 1 (a - b) * p + 2700 * b ≤ 2700 + 2700 * a := by
  have h1 : max 1 (a - b) ≤ 1 + (a - b) := by omega
  have h2 : max 1 (a - b) * p ≤ (1 + (a - b)) * 2700 := Nat.mul_le_mul h1 hp
  omega
/-- what solve leaves -/
def rf_SO (s t : sx_S) : Prop := (cx_I t ∧ cx_F [(66, 66), (100, 122), (124, 124)] s t ∧ rf_f [50, 56, 58, 61, 64, 70, 71, 78, 79, 83, 86, 89] s t) ∧ rf_LD t ∧ (t.1 66 78 ≠ 0 → ∃ g, rf_HS t g)
theorem rf_SO_no {s t : sx_S} (hL : rf_LD s) (hI : cx_I t) (h : rf_Z (rf_z8 s) t) (h78 : t.1 66 78 = 0 ∨ ∃ g, rf_HS t g) : rf_SO s t := by
  obtain ⟨f1, f2⟩ := rf_z8_Z (s := s)
  exact ⟨⟨hI, cx_F_step h.1.1 rfl (cx_F_step f2 rfl (cx_F_refl _ _)), rf_f_step h.1.2 rfl (rf_f_step f1 rfl (rf_f_refl _ _))⟩, rf_Z_LD hL h, fun c => h78.elim (fun q => absurd q c) id⟩
theorem rf_EX_u1 {nb ib v : Int} {k : Nat} {s : sx_S} (hk : k = 78 ∨ k = 89) : rf_EX nb ib s (sx_uf s.1 66 k v, s.2) ∧ rf_NC s (sx_uf s.1 66 k v, s.2) ∧ (rf_OD s → rf_OD (sx_uf s.1 66 k v, s.2)) := by
  have e : ∀ q, q ≠ k → sx_uf s.1 66 k v 66 q = s.1 66 q := fun q hq => by rw [sx_uf_if, if_neg (fun c => hq c.2)]
  exact ⟨⟨⟨⟨e 9 (by omega), rfl, rfl, rfl, e 42 (by omega)⟩, Int.le_of_eq (e 50 (by omega)).symm, Int.le_of_eq (e 56 (by omega)).symm, Int.le_of_eq (e 61 (by omega)).symm, Int.le_of_eq (e 64 (by omega)).symm, Int.le_of_eq (e 70 (by omega)).symm⟩, fun _ => ⟨fun _ => ⟨rfl, rfl, rfl, rfl, rfl⟩, fun _ => rfl, fun _ => rfl, fun _ => ⟨rfl, rfl, fun _ => ⟨rfl, rfl, rfl, rfl⟩⟩, fun _ => rfl, fun _ => ⟨rfl, rfl, rfl⟩⟩⟩, ⟨e 61 (by omega), fun _ _ => rfl⟩, fun h => rf_OD_same h (e 61 (by omega)) (e 83 (by omega)) (e 79 (by omega)) (fun _ _ => rfl)⟩
