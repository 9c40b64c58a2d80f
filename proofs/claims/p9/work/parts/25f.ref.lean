/-! ===== the reference: fits ===== -/
/-- what may stand in a solution: a variable made since, or one of the unknown's own -/
def rf_gv (s : sx_S) (m row mark w : Int) : Prop := mark ≤ w ∨ ∃ q : Nat, (q : Int) < rf_aa s m ∧ w = s.2.1 105 (row + (q : Int)).toNat
theorem rf_gv_up {nb ib : Int} {s t : sx_S} (h : rf_EX nb ib s t) {m row mark w : Int} (hm : 0 ≤ m ∧ m < s.1 66 61) (hrow : 0 ≤ row ∧ row + rf_aa s m ≤ s.1 66 56) : rf_gv t m row mark w ↔ rf_gv s m row mark w := by
  have eaa := h.aa hm.1 hm.2
  constructor
  · rintro (z | ⟨q, q1, q2⟩)
    · exact Or.inl z
    · rw [eaa] at q1
      exact Or.inr ⟨q, q1, by rw [q2]; exact (h.2 _).2.1 (by omega)⟩
  · rintro (z | ⟨q, q1, q2⟩)
    · exact Or.inl z
    · exact Or.inr ⟨q, by omega, by rw [q2]; exact ((h.2 _).2.1 (by omega)).symm⟩
/-- the marked unknowns lie on the way, or have no way to m -/
def rf_clo (s : sx_S) (g : rf_Gh) (W : List Nat) (m : Int) : Prop := ∀ x : Nat, (x : Int) < s.1 66 61 → s.2.1 124 x ≠ 0 → x ∈ W ∨ ¬ rf_rc (rf_Ed s g) (x : Int) m
theorem rf_rc_head {E : Int → Int → Prop} {a c : Int} (h : rf_rc E a c) : ∃ b, E a b ∧ (b = c ∨ rf_rc E b c) := by
  induction h with
  | single q => exact ⟨_, q, Or.inl rfl⟩
  | tail _ q ih =>
    obtain ⟨b, b1, b2⟩ := ih
    refine ⟨b, b1, Or.inr ?_⟩
    rcases b2 with rfl | b2
    · exact .single q
    · exact .tail b2 q
theorem rf_fo_snoc {W : Nat → Int → Int → Prop} {p : rf_N} {v : Int} : ∀ {n : rf_N}, (rf_fo W (rf_snoc n p)).2 v ↔ (rf_fo W n).2 v ∨ (rf_fo W p).2 v
  | .leaf => ⟨Or.inr, fun h => h.elim (fun q => q.elim) id⟩
  | .inner j k u f x => by
    have := rf_fo_snoc (W := W) (p := p) (v := v) (n := x)
    show _ ∨ (rf_fo W (rf_snoc x p)).2 v ↔ (_ ∨ (rf_fo W x).2 v) ∨ _
    rw [this]
    exact (or_assoc).symm
/-- ways after keep -/
theorem rf_keep_Ed {nb ib : Int} {s u t : sx_S} {g g' : rf_Gh} {Vf Tf : Nat → Int} {kf : Nat → Nat} {n : Nat} {x row : Int} (hI : cx_I s) (hW : rf_KW s u Vf Tf kf n) (hA : rf_AS u t x row (s.1 66 50) (-1)) (hx : 0 ≤ x ∧ x < s.1 66 61) (hM : rf_MI nb ib t g') (hG : rf_EG s g g') : ∀ a b, rf_Ed t g' a b → rf_Ed s g a b ∨ (a = x ∧ b = s.1 66 61) := by
  obtain ⟨⟨b1, b2, b3⟩, ⟨c1, c2, c3, c4⟩, ⟨d1, d2, d3, d4, d5⟩, ⟨e1, e2, e3, e4, e5⟩, ⟨f1, f2, f3⟩, _⟩ := hW
  obtain ⟨a1, a2, a3, a4, a5, a6, a7, a8, a9⟩ := hA
  have r50 := hI.fld 66 50 (by decide) rfl
  have e61 := a3 61 rfl
  rintro a b ⟨⟨z1, z2⟩, z3, z4⟩
  by_cases e : a = x
  · subst e
    have hSV := (hM.1 a z1 z2).2.2.2 z3
    have hno := hSV.1.1
    rw [a8] at hno
    obtain ⟨f, n', q1, _⟩ := rf_nd_cons hno (by omega)
    rw [q1] at z4
    have k3 : t.2.1 100 (s.1 66 50).toNat = 3 := by rw [(a2.same 100 rfl).2]; exact e1
    have k4 : t.2.1 101 (s.1 66 50).toNat = s.1 66 61 := by rw [(a2.same 101 rfl).2]; exact e2
    rcases z4 with ⟨_, y2⟩ | ⟨y1, _⟩ | ⟨y1, _⟩
    · exact Or.inr ⟨rfl, by rw [y2]; exact k4⟩
    · dsimp only at y1
      omega
    · dsimp only at y1
      omega
  · have h1 : t.2.1 111 a.toNat = u.2.1 111 a.toNat := a5 111 _ (by omega) (by omega) (by omega)
    have hne : a ≠ s.1 66 61 := fun c => by
      rw [c] at h1 z3
      rw [h1] at z3
      exact z3 f3
    have h2 : u.2.1 111 a.toNat = s.2.1 111 a.toNat := d5 111 _ (by omega) (by omega) (by omega)
    have z3' : s.2.1 111 a.toNat ≠ 0 := by rw [← h2, ← h1]; exact z3
    refine Or.inl ⟨⟨z1, by omega⟩, z3', ?_⟩
    rw [← ((hG a z1 (by omega)).1 z3').1]
    exact z4
