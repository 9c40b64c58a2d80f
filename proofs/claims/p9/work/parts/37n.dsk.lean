def dz_i15 (x : qx_T) (s : sx_S) (Ts : List qx_T) (y : qx_T) (x5 x6 : Int) (u : sx_S) : Prop := True → x = dz_as Ts y ∧ dx_is u y x6 ∧ ((Ts.length : Int) = x5 ∧ x5 ≤ 4) ∧ u.1 11 6 = s.1 11 6 ∧ u.1 11 8 = s.1 11 8 + x5 ∧ dz_fr (fun _ => True) s u ∧ (∀ j : Nat, (j : Int) < s.1 11 8 → u.2.1 17 j = s.2.1 17 j) ∧ (∀ (i : Nat) T, Ts[i]? = some T → dx_is u T (u.2.1 17 (s.1 11 8 + (i : Int)).toNat))
theorem dz_is_F {s t : sx_S} {x : qx_T} {z : Int} (hF : cx_F [(11, 17)] s t) (h : dx_is s x z) : dx_is t x z := by
  have h' : qx_ty (s.2.1 9) (s.2.1 10) (s.1 8 2) x z := h
  show qx_ty (t.2.1 9) (t.2.1 10) (t.1 8 2) x z
  rw [(hF.same 9 rfl).2, (hF.same 10 rfl).2, (hF.same 8 rfl).1]
  exact h'
theorem dz_T_a0 {lo a0 k h : Int} {f : rf_N} {s : sx_S} (h : dz_T lo s (rf_n a0.toNat k h f .leaf) a0) : 0 ≤ a0 ∧ a0 < s.1 11 6 ∧ lo ≤ a0 ∧ s.2.1 12 a0.toNat = k := by
  obtain ⟨⟨⟨h1, h2⟩, ⟨h3, _⟩, _⟩, _, _, h4, _⟩ := h trivial
  have := h4 _ List.mem_cons_self
  exact ⟨by omega, by omega, by omega, h3⟩
theorem dz_get {α : Type} {l : List α} {j : Nat} (h : j < l.length) : ∃ a, l[j]? = some a := ⟨_, List.getElem?_eq_getElem h⟩
