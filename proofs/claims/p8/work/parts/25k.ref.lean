/-! ===== the reference: bind ===== -/
/-- the row is made -/
def rf_BB (s w : sx_S) (m x5 : Int) : Prop := (cx_I w ∧ rf_EX (s.1 66 71) (s.1 66 58) s w ∧ rf_NC s w ∧ rf_FS s w) ∧ (w.1 66 71 = s.1 66 71 ∧ w.1 66 58 = s.1 66 58 ∧ w.1 66 70 = s.1 66 70 ∧ w.1 66 50 = s.1 66 50 ∧ w.1 66 61 = s.1 66 61 ∧ w.1 66 64 = s.1 66 64 ∧ s.1 66 56 ≤ w.1 66 56 ∧ w.1 66 56 ≤ s.1 66 56 + 4) ∧ ((0 ≤ x5 ∧ x5 + rf_aa w m ≤ w.1 66 56) ∧ (∀ q : Nat, (q : Int) < rf_aa w m → ∃ T, rf_py w m q T ∧ rf_vb (w.1 66 58) w (w.2.1 105 (x5 + (q : Int)).toNat) T) ∧ (∀ p q : Nat, (p : Int) < rf_aa w m → (q : Int) < rf_aa w m → w.2.1 105 (x5 + (p : Int)).toNat = w.2.1 105 (x5 + (q : Int)).toNat → p = q))
theorem rf_BB_mark {s w : sx_S} {m x5 : Int} {n : Nat} (hm : 0 ≤ m ∧ m < s.1 66 61) (h : rf_BB s w m x5) : rf_BB s (w.1, sx_ua w.2.1 124 n 0, w.2.2) m x5 := by
  obtain ⟨⟨a1, a2, a3, a4⟩, b, ⟨c1, c2, c3⟩⟩ := h
  have o : ∀ q, q ≠ 124 → sx_ua w.2.1 124 n 0 q = w.2.1 q := fun q hq => sx_ua_ne hq
  obtain ⟨e1, e2⟩ := rf_EX_mark (nb := s.1 66 71) (ib := s.1 66 58) (s := w) (n := n) (v := 0)
  have e3 := (rf_EX_mark (nb := w.1 66 71) (ib := w.1 66 58) (s := w) (n := n) (v := 0)).1
  have hmw : m < w.1 66 61 := by
    have := b.2.2.2.2.1
    omega
  have eaa : rf_aa (w.1, sx_ua w.2.1 124 n 0, w.2.2) m = rf_aa w m := e3.aa hm.1 hmw
  have e105 : ((w.1, sx_ua w.2.1 124 n 0, w.2.2) : sx_S).2.1 105 = w.2.1 105 := o 105 (by decide)
  refine ⟨⟨cx_I_ua rfl rfl a1 (by decide) (by decide), rf_EX_trans e1 a2 (Int.le_refl _) (Int.le_refl _), ⟨a3.1, fun j hj => ?_⟩, rf_FS_trans e2 a4⟩, b, ⟨by rw [eaa]; exact c1, fun q hq => ?_, fun p q hp hq e => ?_⟩⟩
  · show sx_ua w.2.1 124 n 0 111 j = _
    rw [o 111 (by decide)]
    exact a3.2 j hj
  · rw [eaa] at hq
    rw [e105]
    obtain ⟨T, t1, t2⟩ := c2 q hq
    exact ⟨T, e3.pt hm.1 hmw t1, (e3.vb (Int.le_refl _) _ _).mpr t2⟩
  · rw [eaa] at hp hq
    rw [e105] at e
    exact c3 p q hp hq e
