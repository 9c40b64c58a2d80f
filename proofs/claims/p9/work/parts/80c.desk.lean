/-! ===== the desk: what its calls leave of the loaded text ===== -/
theorem c_dload3 {sL : Nat} {sx : Nat → Int32} (hsL : sL ≤ 3072) (d : Nat) (hd : 165 ≤ d) : ∀ (a0 : Int) (s : sx_S) (K : Int → sx_S → Prop), cx_I s → (-2147483648 ≤ a0 ∧ a0 ≤ 2147483647) → (∀ (z : Int) (t : sx_S), cx_I t → cx_F [(0, 28)] s t → (-2147483648 ≤ z ∧ z ≤ 2147483647) → (((a0 < 0 ∨ s.1 0 1 < a0) ∧ t.1 0 1 = s.1 0 1) ∨ (0 ≤ a0 ∧ a0 ≤ s.1 0 1 ∧ t.1 0 1 = 0 ∧ (z = 0 ∧ t.1 0 2 = 1 ∧ t.1 0 3 = -1 ∨ z ≠ 0 ∧ t.1 0 2 = 0))) → K z t) → sx_C sL sx d 138 [.inr (.inl 0), .inl a0] s K := by
  intro a0 s K hI p0 hK
  obtain ⟨d, rfl⟩ : ∃ e, d = e + 2 := ⟨d - 2, by omega⟩
  exact sx_meth (wr := true) (n := 400) hsL (e := eX11_load) rfl (w_dload3 (Q := fun _ _ _ => False) (fun a0 s K h1 h2 hK => c_tkreadD hsL (d + 1) (by omega) a0 s K h1 h2 (fun z t t1 t2 t3 => hK z t t1 t2 ⟨t3.1, t3.2, congrFun (t2.same 0 rfl).1 3⟩)) (fun s K h1 hK => c_gacceptsD hsL (d + 1) (by omega) s K h1 (fun z t t1 t2 t4 t3 => hK z t t1 t2 t4 ⟨t3.1, t3.2, congrFun (t2.same 0 rfl).1 3⟩)) (c_gplace hsL (d + 1) (by omega)) (fun s K h1 hK => c_cacceptsD hsL (d + 1) (by omega) s K h1 (fun z t t1 t2 t4 t3 => hK z t t1 t2 t4 ⟨t3.1, t3.2, congrFun (t2.same 0 rfl).1 3⟩)) (c_chplace hsL (d + 1) (by omega)) (c_chnumber hsL (d + 1) (by omega)) hI p0 hK)
theorem px_an_fun {b : Nat → Int} {n z z' : Int} (h : px_an b n z) (h' : px_an b n z') : z = z' := by
  rcases h with ⟨h1, h2⟩ | ⟨l, h1, h2⟩ <;> rcases h' with ⟨g1, g2⟩ | ⟨l', g1, g2⟩
  · omega
  · exact absurd g1 (h2 l')
  · exact absurd h1 (g2 l)
  · obtain rfl := px_TX_fun h1 g1
    rcases h2 with ⟨h2, h3⟩ | ⟨h2, h3⟩ <;> rcases g2 with ⟨g2, g3⟩ | ⟨g2, g3⟩
    · omega
    · exact absurd h3 g3
    · exact absurd g3 h3
    · omega
theorem px_an_r {b : Nat → Int} {n z : Int} (h : px_an b n z) : -3 ≤ z ∧ z ≤ 0 := by
  rcases h with ⟨h1, _⟩ | ⟨l, _, ⟨h1, _⟩ | ⟨h1, _⟩⟩ <;> omega
