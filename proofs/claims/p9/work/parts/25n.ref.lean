/-! ===== the reference: unify, its contract ===== -/
theorem rf_hk_CL {u : sx_S} {g : rf_Gh} {N : Int → rf_T → Prop} {A : rf_N} {y : rf_Y} {x : rf_T} {W : List Nat} {p : Nat} {i b v : Int} (hI : cx_I u) (k : rf_CL u g N A y x W p i b) (hk : rf_hk u i) (hv : rf_hv u y i v) (hp : 1 ≤ p) : x = .leaf ∧ (-2147483648 ≤ v ∧ v ≤ 2147483647) ∧ ∃ w, rf_CR u g N (rf_fst A) y w W (p - 1) (u.2.1 102 i.toNat) b ∧ ((u.2.1 100 i.toNat = 2 ∧ rf_vb (u.1 66 58) u v w) ∨ (u.2.1 100 i.toNat = 1 ∧ rf_is u w (u.2.1 96 v.toNat))) := by
  obtain ⟨j, kk, uu, f, n, eA, e1, e2, e3, e4, e5, e6, e7, e8⟩ := rf_CL_node k
  subst eA
  have h101 := hI.arr 101 (by decide) rfl i.toNat
  have kN := k.1.2.2.2
  have hl := rf_look_in hI kN.1 h101
  unfold rf_hv at hv
  unfold rf_hk at hk
  rw [e2] at hv hk h101 hl ⊢
  rw [e4] at hv hk ⊢
  rw [e5] at hv h101 hl
  rcases e8 with ⟨c, _⟩ | ⟨c, hx, w, hw, hf⟩
  · omega
  · refine ⟨hx, ?_, w, rf_CL_app k hk hf hp, ?_⟩
    · by_cases c2 : kk.1 = 2
      · rw [if_pos c2] at hv
        rw [hv]
        exact hl
      · rw [if_neg c2] at hv
        rw [hv]
        exact h101
    · rcases hk with hk | hk
      · rw [if_neg (by omega)] at hv
        rw [hv]
        exact Or.inr ⟨hk, (rf_Hn_1 hw hk).2⟩
      · rw [if_pos hk] at hv
        rw [hv]
        exact Or.inl ⟨hk, kN.2.2.1 _ w (Or.inl (rf_Hn_02 hw (Or.inr hk)))⟩
