/-! ===== the reference: fits, its contract ===== -/
theorem rf_RM_le {e e' : Int} {s : sx_S} (h : rf_RM e s) (he : e ≤ e') : rf_RM e' s := ⟨h.1, by have := h.2.1; omega, h.2.2⟩
theorem rf_RM_same {e : Int} {s t : sx_S} (h : rf_RM e s) (e50 : t.1 66 50 = s.1 66 50) (e56 : t.1 66 56 = s.1 66 56) (e61 : t.1 66 61 = s.1 66 61) (e64 : t.1 66 64 = s.1 66 64) (e70 : t.1 66 70 = s.1 66 70) (eq : rf_qu t = rf_qu s) : rf_RM e t := by
  obtain ⟨h1, h2, h3, h4, h5, h6⟩ := h
  exact ⟨by omega, by omega, by omega, by omega, by omega, by omega⟩
theorem rf_Ed_NC {s t : sx_S} {g : rf_Gh} (h : rf_NC s t) {a b : Int} : rf_Ed t g a b ↔ rf_Ed s g a b := by
  obtain ⟨h1, h2⟩ := h
  constructor
  · rintro ⟨⟨z1, z2⟩, z3, z4⟩
    exact ⟨⟨z1, by omega⟩, by rw [← h2 a.toNat (by omega)]; exact z3, z4⟩
  · rintro ⟨⟨z1, z2⟩, z3, z4⟩
    exact ⟨⟨z1, by omega⟩, by rw [h2 a.toNat (by omega)]; exact z3, z4⟩
theorem rf_rc_NC {s t : sx_S} {g : rf_Gh} (h : rf_NC s t) {a b : Int} : rf_rc (rf_Ed t g) a b ↔ rf_rc (rf_Ed s g) a b := ⟨fun k => rf_rc_mono (fun _ _ q => (rf_Ed_NC h).mp q) k, fun k => rf_rc_mono (fun _ _ q => (rf_Ed_NC h).mpr q) k⟩
theorem rf_clo_NC {s t : sx_S} {g : rf_Gh} {W : List Nat} {m : Int} (h : rf_NC s t) (e : t.2.1 124 = s.2.1 124) (k : rf_clo s g W m) : rf_clo t g W m := by
  intro x hx hc
  rw [e] at hc
  rw [h.1] at hx
  exact (k x hx hc).imp id (fun q z => q ((rf_rc_NC h).mp z))
