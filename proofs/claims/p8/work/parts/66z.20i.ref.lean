/-! ===== the reference: terms are read ===== -/
theorem rf_nk_uf {F : Nat → Nat → Int} {B : (Nat → Nat → Int) × (Nat → Nat → Int) × Nat} {p k : Nat} {v z w : Int} (h : rf_nk (F, B) z w) : rf_nk (sx_uf F p k v, B) z w := h
theorem rf_nk_ua {F A : Nat → Nat → Int} {B : (Nat → Nat → Int) × Nat} {p k : Nat} {v z w : Int} (hp : (Nat.beq p 74 || Nat.beq p 80 || Nat.beq p 81 || Nat.beq p 84) = false) (h : rf_nk (F, A, B) z w) : rf_nk (F, sx_ua A p k v, B) z w := by
  have e : ∀ q, (Nat.beq p q) = false → sx_ua A p k v q = A q := fun q hq => sx_ua_ne (fun c => by rw [c, Nat.beq_refl] at hq; cases hq)
  simp only [Bool.or_eq_false_iff] at hp
  intro t
  obtain ⟨h1, h2, h3, h4⟩ := h t
  dsimp only
  rw [e 74 hp.1.1.1, e 80 hp.1.1.2, e 81 hp.1.2, e 84 hp.2]
  exact ⟨h1, h2, h3, h4⟩
theorem rf_nk_F {V : List (Nat × Nat)} {s t : sx_S} {z k : Int} (hF : cx_F V s t) (hV : (cx_outb V 74 && cx_outb V 80 && cx_outb V 81 && cx_outb V 84) = true) (h : rf_nk s z k) : rf_nk t z k := by
  simp only [Bool.and_eq_true] at hV
  intro q
  rw [(hF.same 74 hV.1.1.1).2, (hF.same 80 hV.1.1.2).2, (hF.same 81 hV.1.2).2, (hF.same 84 hV.2).2]
  exact h q
theorem rf_nk2_uf {F : Nat → Nat → Int} {B : (Nat → Nat → Int) × (Nat → Nat → Int) × Nat} {p k : Nat} {v z : Int} (h : rf_nk2 (F, B) z) : rf_nk2 (sx_uf F p k v, B) z := h
theorem rf_nk2_ua {F A : Nat → Nat → Int} {B : (Nat → Nat → Int) × Nat} {p k : Nat} {v z : Int} (hp : Nat.beq p 74 = false) (h : rf_nk2 (F, A, B) z) : rf_nk2 (F, sx_ua A p k v, B) z := by
  intro t
  dsimp only
  rw [sx_ua_ne (fun c => by rw [← c, Nat.beq_refl] at hp; cases hp)]
  exact h t
theorem rf_nk2_F {V : List (Nat × Nat)} {s t : sx_S} {z : Int} (hF : cx_F V s t) (hV : cx_outb V 74 = true) (h : rf_nk2 s z) : rf_nk2 t z := by
  intro q
  rw [(hF.same 74 hV).2]
  exact h q
theorem rf_nk2_nt {m : Int} {s t : sx_S} {z : Int} (hn : rf_nt m s t) (h0 : 0 ≤ z) (hz : z < m) (h : rf_nk2 s z) : rf_nk2 t z := fun q => (hn 74 z.toNat (by omega) (by omega) (by omega)).trans (h q)
theorem rf_nk2_k {s : sx_S} {z : Int} (h : rf_nk s z 2) : rf_nk2 s z := fun q => (h q).1
theorem rf_tu_ua {s : sx_S} {F A : Nat → Nat → Int} {B : (Nat → Nat → Int) × Nat} {p k : Nat} {v : Int} (h1 : Nat.beq p 72 = false) (h2 : Nat.beq p 73 = false) (h : rf_tu s (F, A, B)) : rf_tu s (F, sx_ua A p k v, B) := by
  intro j
  have q := h j
  dsimp only at q ⊢
  rw [sx_ua_ne (fun c => by rw [← c, Nat.beq_refl] at h1; cases h1), sx_ua_ne (fun c => by rw [← c, Nat.beq_refl] at h2; cases h2)]
  exact q
