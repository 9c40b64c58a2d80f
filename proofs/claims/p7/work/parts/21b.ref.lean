/-! ===== the reference: types are compared; what a name means ===== -/
def rf_hx : rf_T → Nat
  | .leaf => 0
  | .inner _ _ _ x y => max (rf_hx x) (rf_hx y) + 1
theorem rf_hx_at : ∀ x : rf_T, rf_hx x + 1 ≤ rf_at x
  | .leaf => Nat.le_refl _
  | .inner _ _ _ x y => by
    have h1 := rf_hx_at x
    have h2 := rf_hx_at y
    have h3 := rf_at_pos x
    have h4 := rf_at_pos y
    unfold rf_hx rf_at
    omega
theorem w_r_same_b {CALL : sx_Ca} {sL : Nat} {sx : Nat → Int32} {Q : Nat → sx_L → sx_S → Prop} {R : Int → sx_S → Prop} {s : sx_S} {a b : Int} (hI : cx_I s) (ha : 0 ≤ a ∧ a < 2) (hb : 0 ≤ b ∧ b ≤ 5999) (hK : ∀ z : Int, (0 ≤ z ∧ z ≤ 1) → (z ≠ 0 → a = b) → R z s) : sx_wp true sL sx eX12_same CALL [] Q R 400 0 (sx_argsF 0 [.inr (.inl 66), .inl a, .inl b]) [] s := by
  repeat' (first | (with_reducible intro _) | (refine And.intro ?_ ?_) | (refine hK _ ?_ ?_))
  all_goals (try dsimp only)
  all_goals (first | trivial | omega)
theorem w_r_same_i {CALL : sx_Ca} {sL : Nat} {sx : Nat → Int32} {Q : Nat → sx_L → sx_S → Prop} {R : Int → sx_S → Prop} {s : sx_S} {a b : Int} {E1 E2 : Prop} (hI : cx_I s) (ha : 2 ≤ a ∧ a ≤ 5999) (hb : 0 ≤ b ∧ b ≤ 5999) (hS1 : 2 ≤ b → ∀ (u w : Int) (K : Int → sx_S → Prop), u = s.2.1 72 a.toNat → w = s.2.1 72 b.toNat → (∀ z : Int, (0 ≤ z ∧ z ≤ 1) → (z ≠ 0 → E1) → K z s) → CALL 166 [.inr (.inl 66), .inl u, .inl w] s K) (hS2 : 2 ≤ b → ∀ (u w : Int) (K : Int → sx_S → Prop), u = s.2.1 73 a.toNat → w = s.2.1 73 b.toNat → (∀ z : Int, (0 ≤ z ∧ z ≤ 1) → (z ≠ 0 → E2) → K z s) → CALL 166 [.inr (.inl 66), .inl u, .inl w] s K) (hK : ∀ z : Int, (0 ≤ z ∧ z ≤ 1) → (z ≠ 0 → 2 ≤ b) → (z ≠ 0 → E1) → (z ≠ 0 → E2) → R z s) : sx_wp true sL sx eX12_same CALL [] Q R 400 0 (sx_argsF 0 [.inr (.inl 66), .inl a, .inl b]) [] s := by
  repeat' (first | (with_reducible intro _) | (refine And.intro ?_ ?_) | (refine hK _ ?_ ?_ ?_ ?_) | (refine hS1 (by omega) _ _ _ (by assumption) (by assumption) ?_) | (refine hS2 (by omega) _ _ _ (by assumption) (by assumption) ?_))
  all_goals (try dsimp only)
  all_goals (first | trivial | omega | (solve_by_elim) | (exfalso; omega))
theorem c_r_same {sL : Nat} {sx : Nat → Int32} (hsL : sL ≤ 3072) : ∀ (x : rf_T) (d : Nat), rf_hx x + 2 ≤ d → ∀ (y : rf_T) (a b : Int) (s : sx_S) (K : Int → sx_S → Prop), cx_I s → (2 ≤ s.1 66 9 ∧ s.1 66 9 ≤ 6000) → rf_is s x a → rf_is s y b → (∀ z : Int, (0 ≤ z ∧ z ≤ 1) → (z ≠ 0 → x = y) → K z s) → sx_C sL sx d 166 [.inr (.inl 66), .inl a, .inl b] s K
  | .leaf, d, hd, y, a, b, s, K, hI, h9, hx, hy, hK => by
    obtain ⟨d, rfl⟩ : ∃ e, d = e + 2 := ⟨d - 2, by omega⟩
    have b0 := rf_ty_lo hy
    have b1 := rf_ty_hi h9.1 hy
    exact sx_meth (wr := true) (n := 400) hsL (e := eX12_same) rfl (w_r_same_b (Q := fun _ _ _ => False) hI hx ⟨b0, by omega⟩ (fun z h0 h1 => hK z h0 (fun e => by
      have := h1 e
      subst this
      exact rf_ty_inj hx hy)))
  | .inner n u v x1 x2, d, hd, y, a, b, s, K, hI, h9, hx, hy, hK => by
    obtain ⟨d, rfl⟩ : ∃ e, d = e + 2 := ⟨d - 2, by omega⟩
    have b0 := rf_ty_lo hy
    have b1 := rf_ty_hi h9.1 hy
    have a1 := rf_ty_hi h9.1 hx
    have hh : rf_hx (.inner n u v x1 x2) = max (rf_hx x1) (rf_hx x2) + 1 := rfl
    rw [hh] at hd
    refine sx_meth (wr := true) (n := 400) hsL (e := eX12_same) rfl (w_r_same_i (Q := fun _ _ _ => False) (E1 := 2 ≤ b → ∀ y1 y2, y = rf_a y1 y2 → x1 = y1) (E2 := 2 ≤ b → ∀ y1 y2, y = rf_a y1 y2 → x2 = y2) hI ⟨hx.1.2.1, by omega⟩ ⟨b0, by omega⟩ ?_ ?_ (fun z h0 h1 h2 h3 => hK z h0 (fun e => ?_)))
    · intro hb u' w' K' hu hw hK'
      obtain ⟨y1, y2, e, g1, g2⟩ := rf_ty_a hy hb
      refine c_r_same hsL x1 (d + 1) (by omega) y1 u' w' s K' hI h9 (by rw [hu]; exact hx.2.1) (by rw [hw]; exact g1) (fun z q0 q1 => hK' z q0 (fun ez _ z1 z2 e' => ?_))
      rw [e] at e'
      injection e' with _ _ _ e1 _
      rw [← e1]
      exact q1 ez
    · intro hb u' w' K' hu hw hK'
      obtain ⟨y1, y2, e, g1, g2⟩ := rf_ty_a hy hb
      refine c_r_same hsL x2 (d + 1) (by omega) y2 u' w' s K' hI h9 (by rw [hu]; exact hx.2.2) (by rw [hw]; exact g2) (fun z q0 q1 => hK' z q0 (fun ez _ z1 z2 e' => ?_))
      rw [e] at e'
      injection e' with _ _ _ _ e2
      rw [← e2]
      exact q1 ez
    · obtain ⟨y1, y2, e2, g1, g2⟩ := rf_ty_a hy (h1 e)
      rw [h2 e (h1 e) y1 y2 e2, h3 e (h1 e) y1 y2 e2, e2, hx.1.1]
