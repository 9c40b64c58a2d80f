theorem rf_CL_b {s : sx_S} {g : rf_Gh} (hI : cx_I s) {N : Int → rf_T → Prop} {A : rf_N} {y : rf_Y} {x : rf_T} {W : List Nat} {p : Nat} {i b : Int} (k : rf_CL s g N A y x W p i b) : 0 ≤ i ∧ i ≤ 59999 := by
  obtain ⟨j, kk, u, f, n, _, e1, e2, e3, _⟩ := rf_CL_node k
  have := hI.fld 66 50 (by decide) rfl
  omega
/-- an unknown's node -/
theorem rf_CL_3 {s : sx_S} {g : rf_Gh} {N : Int → rf_T → Prop} {A : rf_N} {y : rf_Y} {x : rf_T} {W : List Nat} {p : Nat} {i b : Int} (k : rf_CL s g N A y x W p i b) (h3 : s.2.1 100 i.toNat = 3) : (0 ≤ s.2.1 101 i.toNat ∧ s.2.1 101 i.toNat < s.1 66 61) ∧ (0 ≤ s.2.1 104 i.toNat ∧ s.2.1 104 i.toNat + rf_aa s (s.2.1 101 i.toNat) ≤ s.1 66 56) ∧ x = .leaf ∧ (∃ (j : Nat) (kk : Int × Int) (u : Unit) (f n : rf_N), A = .inner j kk u f n ∧ i.toNat = j ∧ kk.1 = 3 ∧ kk.2 = s.2.1 101 i.toNat) := by
  obtain ⟨j, kk, u, f, n, eA, e1, e2, e3, e4, e5, e6, e7, e8⟩ := rf_CL_node k
  rw [e2, e4] at h3
  rcases e8 with ⟨c, _⟩ | ⟨c, hx, w, hw, _⟩
  · omega
  · obtain ⟨h1, h2, h4, h5⟩ := rf_Hn_3 hw h3
    rw [e2, e5]
    exact ⟨h2, h4, hx, j, kk, u, f, n, eA, rfl, h3, rfl⟩
