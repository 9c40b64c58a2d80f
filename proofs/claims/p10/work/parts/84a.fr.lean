/-! ===== solving leaves what is loaded as it is ===== -/
def dw_fr (s t : sx_S) : Prop := True → dz_fr (fun j => (j : Int) < s.1 11 6) s t ∧ cx_F [(11, 17), (29, 54)] s t
theorem dw_fr_refl (s : sx_S) : dw_fr s s := fun _ => ⟨dz_fr_refl _ s, cx_F_refl _ _⟩
theorem dw_fr_t {s u t : sx_S} (h1 : dw_fr s u) (h2 : dw_fr u t) : dw_fr s t := fun _ => by
  obtain ⟨a1, a2⟩ := h1 trivial
  obtain ⟨b1, b2⟩ := h2 trivial
  refine ⟨dz_fr_t b1 a1 (fun j hj => ?_), cx_F_step b2 rfl a2⟩
  have := (a1 trivial).1
  omega
theorem dw_fr_F {s u : sx_S} {W : List (Nat × Nat)} (h : cx_F W s u) (h0 : cx_F [(11, 17), (29, 54)] s u) (hw : cx_outb W 11 = true ∧ cx_outb W 12 = true ∧ cx_outb W 13 = true ∧ cx_outb W 14 = true ∧ cx_outb W 15 = true ∧ cx_outb W 16 = true) : dw_fr s u := fun _ => ⟨(dv_nf_F (AR := fun _ => []) (s.1 11 6) h hw trivial).1, h0⟩
