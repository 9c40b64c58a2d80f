/-! ===== the reference: fits, its contract ===== -/
theorem rf_RM_le {e e' : Int} {s : sx_S} (h : rf_RM e s) (he : e ≤ e') : rf_RM e' s := ⟨h.1, by have := h.2.1; omega, h.2.2⟩
theorem rf_RM_same {e : Int} {s t : sx_S} (h : rf_RM e s) (e50 : t.1 66 50 = s.1 66 50) (e56 : t.1 66 56 = s.1 66 56) (e61 : t.1 66 61 = s.1 66 61) (e64 : t.1 66 64 = s.1 66 64) (e70 : t.1 66 70 = s.1 66 70) (eq : rf_qu t = rf_qu s) : rf_RM e t := by
  obtain ⟨h1, h2, h3, h4, h5, h6⟩ := h
  exact ⟨by omega, by omega, by omega, by omega, by omega, by omega⟩
theorem rf_Ed_NC {s t : sx_S} {g : rf_Gh} (h : rf_NC s t) {a b : Int} : rf_Ed t g a b ↔ rf_Ed s g a b := by
  obtain ⟨h1, h2⟩ := h
  constructor
  · rintro ⟨⟨z1, z2⟩, z3, z4⟩
    exact ⟨⟨z1, by omega⟩, by rw [← h2 a.toNat (by omega)]; exact z3, z4⟩
  · rintro ⟨⟨z1, z2⟩, z3, z4⟩
    exact ⟨⟨z1, by omega⟩, by rw [h2 a.toNat (by omega)]; exact z3, z4⟩
theorem rf_rc_NC {s t : sx_S} {g : rf_Gh} (h : rf_NC s t) {a b : Int} : rf_rc (rf_Ed t g) a b ↔ rf_rc (rf_Ed s g) a b := ⟨fun k => rf_rc_mono (fun _ _ q => (rf_Ed_NC h).mp q) k, fun k => rf_rc_mono (fun _ _ q => (rf_Ed_NC h).mpr q) k⟩
theorem rf_clo_NC {s t : sx_S} {g : rf_Gh} {W : List Nat} {m : Int} (h : rf_NC s t) (e : t.2.1 124 = s.2.1 124) (k : rf_clo s g W m) : rf_clo t g W m := by
  intro x hx hc
  rw [e] at hc
  rw [h.1] at hx
  exact (k x hx hc).imp id (fun q z => q ((rf_rc_NC h).mp z))
theorem rf_PF_pre {nb mark : Int} {s s1 t : sx_S} {g : rf_Gh} {z m row : Int} {A A1 : rf_N} {y y1 : rf_Y} {W W1 : List Nat} (hE : rf_EX (s.1 66 71) (s.1 66 58) s s1) (hN : rf_NC s s1) (hF : rf_FS s s1) (hn : s.1 66 71 ≤ s1.1 66 71) (hi : s.1 66 58 ≤ s1.1 66 58) (hm : 0 ≤ m ∧ m < s.1 66 61) (hrow : 0 ≤ row ∧ row + rf_aa s m ≤ s.1 66 56) (h : rf_PF nb mark s1 t g z m row A1 y1 W1) (hc : ∀ g' : rf_Gh, rf_MI nb mark t g' → rf_EX (s.1 66 71) (s.1 66 58) s t → rf_EG s g g' → (∀ v, (rf_fo (rf_Wd t g'.2.2) A1).1 v → rf_gv s m row mark (rf_look y1 v)) → (∀ x, (rf_oc A1).1 x → x ≠ m ∧ ¬ rf_rc (rf_Ed t g') x m) → rf_clo t g' W1 m → (∀ x, rf_rc (rf_Ed t g') x m → rf_rc (rf_Ed s g) x m) → ∃ g2 : rf_Gh, rf_MI nb mark t g2 ∧ g2.1 = g'.1 ∧ rf_EG t g' g2 ∧ (∀ v, (rf_fo (rf_Wd t g2.2.2) A).1 v → rf_gv s m row mark (rf_look y v)) ∧ (∀ x, (rf_oc A).1 x → x ≠ m ∧ ¬ rf_rc (rf_Ed t g') x m) ∧ rf_clo t g' W m) : rf_PF nb mark s t g z m row A y W := by
  obtain ⟨h1, h2, h3, h4⟩ := h
  refine ⟨h1, h2, rf_FS_trans h3 hF, fun hz => ?_⟩
  obtain ⟨g', k1, k2, k3, ⟨k4, k5, k6⟩, ⟨k7, k8⟩, k9, k10, k11, k12, k13⟩ := h4 hz
  have hE2 := rf_EX_trans k2 hE hn hi
  have hG := rf_EG_trans hE k3 (rf_EG_refl s g)
  have hback : ∀ x, rf_rc (rf_Ed t g') x m → rf_rc (rf_Ed s g) x m := fun x q => (rf_rc_NC hN).mp (k13 x q)
  obtain ⟨g2, j1, j2, j3, j4, j5, j6⟩ := hc g' k1 hE2 hG (fun v hv => (rf_gv_up hE hm hrow).mp (k10 v hv)) k11 k12 hback
  have eEd : rf_Ed t g2 = rf_Ed t g' := by
    funext a b
    unfold rf_Ed
    rw [j2]
  have ephi : rf_ph t g2 = rf_ph t g' := rf_ph_same rfl (fun _ _ => ⟨rfl, rfl⟩) (fun j _ _ => by rw [j2])
  have hq := rf_NC_qu hE hN
  refine ⟨g2, j1, hE2, rf_EG_trans hE2 j3 hG, ⟨by omega, k5, by omega⟩, ⟨by omega, by omega⟩, k9, j4, fun x hx => by rw [eEd]; exact j5 x hx, ?_, fun x q => by rw [eEd] at q; exact hback x q⟩
  intro x hx q
  rw [eEd]
  exact j6 x hx q
