/-! ===== the reference: names are looked up ===== -/
def rf_bs (s : sx_S) (y : rf_Y) (i : Int) : Prop := rf_by (s.2.1 115) (s.2.1 116) (s.2.1 117) (s.1 66 71) y i
def rf_yl : rf_Y → Nat
  | .leaf => 0
  | .inner _ _ _ _ r => rf_yl r + 1
theorem w_look_0 {CALL : sx_Ca} {sL : Nat} {sx : Nat → Int32} {Q : Nat → sx_L → sx_S → Prop} {R : Int → sx_S → Prop} {s : sx_S} {a0 a1 : Int} (hI : cx_I s) (hQ : Q 5 [(0, .inr (.inl 66)), (3, .inl a0), (4, .inl a1)] s) : sx_wp true sL sx eX12_look CALL [(5, [0, 3, 4])] Q R 400 0 (sx_argsF 0 [.inr (.inl 66), .inl a0, .inl a1]) [] s := by
  exact hQ
theorem w_look_l {CALL : sx_Ca} {sL : Nat} {sx : Nat → Int32} {Q : Nat → sx_L → sx_S → Prop} {R : Int → sx_S → Prop} {s : sx_S} {x3 x4 : Int} (hI : cx_I s) (h3 : x3 = -1) (h4 : -2147483648 ≤ x4 ∧ x4 ≤ 2147483647) (hK : R x4 s) : sx_wp true sL sx eX12_look CALL [(5, [0, 3, 4])] Q R 400 5 [(0, .inr (.inl 66)), (3, .inl x3), (4, .inl x4)] [] s := by
  repeat' (first | (with_reducible intro _) | (refine And.intro ?_ ?_) | (exact hK))
  all_goals (try dsimp only)
  all_goals (first | trivial | omega | (dsimp only at *; omega) | (exfalso; omega) | (subst_vars; omega) | (exfalso; subst_vars; omega))
theorem w_look_o {CALL : sx_Ca} {sL : Nat} {sx : Nat → Int32} {Q : Nat → sx_L → sx_S → Prop} {R : Int → sx_S → Prop} {s : sx_S} {x3 x4 f t : Int} (hI : cx_I s) (h3 : 0 ≤ x3 ∧ x3 < 400000) (h4 : -2147483648 ≤ x4 ∧ x4 ≤ 2147483647) (hf : s.2.1 115 x3.toNat = f) (hfn : f ≠ -1) (ht : s.2.1 116 x3.toNat = t) (hK : ∀ z, z = t → f = x4 → R z s) (hQ : ∀ u, u = s.2.1 117 x3.toNat → f ≠ x4 → Q 5 [(0, .inr (.inl 66)), (3, .inl u), (4, .inl x4)] s) : sx_wp true sL sx eX12_look CALL [(5, [0, 3, 4])] Q R 400 5 [(0, .inr (.inl 66)), (3, .inl x3), (4, .inl x4)] [] s := by
  repeat' (first | (with_reducible intro _) | (refine And.intro ?_ ?_) | (refine hK _ ?_ ?_) | (refine hQ _ ?_ ?_))
  all_goals (try dsimp only)
  all_goals (first | trivial | omega | (dsimp only at *; omega) | (exfalso; omega) | (subst_vars; omega) | (exfalso; subst_vars; omega))
theorem w_look_a {CALL : sx_Ca} {sL : Nat} {sx : Nat → Int32} {Q : Nat → sx_L → sx_S → Prop} {R : Int → sx_S → Prop} {s : sx_S} {x3 x4 z0 : Int} (hI : cx_I s) (h3 : 0 ≤ x3 ∧ x3 < 400000) (h4 : -2147483648 ≤ x4 ∧ x4 ≤ 2147483647) (hf : s.2.1 115 x3.toNat = -1) (hC : ∀ (u : Int) (K : Int → sx_S → Prop), u = s.2.1 116 x3.toNat → K z0 s → CALL 186 [.inr (.inl 66), .inl u, .inl x4] s K) (hQ : ∀ u, u = s.2.1 117 x3.toNat → Q 5 [(0, .inr (.inl 66)), (3, .inl u), (4, .inl z0)] s) : sx_wp true sL sx eX12_look CALL [(5, [0, 3, 4])] Q R 400 5 [(0, .inr (.inl 66)), (3, .inl x3), (4, .inl x4)] [] s := by
  repeat' (first | (with_reducible intro _) | (refine And.intro ?_ ?_) | (refine hC _ _ ?_ ?_) | (refine hQ _ ?_))
  all_goals (try dsimp only)
  all_goals (first | trivial | omega | (dsimp only at *; omega) | (exfalso; omega) | (subst_vars; omega) | (exfalso; subst_vars; omega))
theorem rf_look_in {s : sx_S} (hI : cx_I s) : ∀ {y : rf_Y} {i v : Int}, rf_bs s y i → (-2147483648 ≤ v ∧ v ≤ 2147483647) → (-2147483648 ≤ rf_look y v ∧ rf_look y v ≤ 2147483647)
  | .leaf, _, v, _, h => h
  | .inner 0 k _ _ r, i, v, hy, h => by
    show _ ≤ (if k.1 = v then k.2 else rf_look r v) ∧ (if k.1 = v then k.2 else rf_look r v) ≤ _
    split
    · have := hI.arr 116 (by decide) rfl i.toNat
      rw [hy.2.2.1] at this
      exact this
    · exact rf_look_in hI hy.2.2.2 h
  | .inner (_ + 1) _ _ a r, i, v, hy, h => rf_look_in hI (y := r) hy.2.2.2 (rf_look_in hI (y := a) hy.2.2.1 h)
theorem c_r_look {sL : Nat} {sx : Nat → Int32} (hsL : sL ≤ 3072) : ∀ (D : Nat) (d : Nat), D + 2 ≤ d → ∀ (y : rf_Y) (a0 a1 : Int) (s : sx_S) (K : Int → sx_S → Prop), cx_I s → rf_dp y ≤ D → rf_bs s y a0 → (-2147483648 ≤ a1 ∧ a1 ≤ 2147483647) → K (rf_look y a1) s → sx_C sL sx d 186 [.inr (.inl 66), .inl a0, .inl a1] s K := by
  intro D
  induction D with
  | zero =>
    intro d hd y a0 a1 s K hI hD hy h1 hK
    obtain ⟨d, rfl⟩ : ∃ e, d = e + 2 := ⟨d - 2, by omega⟩
    have h71 := hI.fld 66 71 (by decide) rfl
    refine sx_methL (wr := true) (n := 400) (n' := 400) (stop := [(5, [0, 3, 4])]) (fun n pc ls u => (pc = 5 ∧ ∃ (x3 x4 : Int) (y' : rf_Y), ls = [(0, .inr (.inl 66)), (3, .inl x3), (4, .inl x4)] ∧ u = s ∧ rf_bs s y' x3 ∧ rf_dp y' ≤ 0 ∧ (-2147483648 ≤ x4 ∧ x4 ≤ 2147483647) ∧ rf_look y' x4 = rf_look y a1 ∧ n = rf_yl y')) hsL (e := eX12_look) rfl ?_ ?_
    · exact w_look_0 hI ⟨_, rfl, a0, a1, y, rfl, rfl, hy, hD, h1, rfl, rfl⟩
    · rintro n pc ls u ⟨rfl, x3, x4, y', rfl, rfl, g1, g2, g3, g4, rfl⟩
      match y', g1, g2, g4 with
      | .leaf, g1, g2, g4 => exact w_look_l hI g1 g3 (by have e : x4 = rf_look y a1 := g4; rw [e]; exact hK)
      | .inner 0 k _ l r, g1, g2, g4 =>
        refine w_look_o hI ⟨g1.1.1, by have := g1.1.2.1; omega⟩ g3 g1.2.1 g1.1.2.2 g1.2.2.1 (fun z hz e => ?_) (fun v hv e => ⟨_, ?_, rfl, v, x4, r, rfl, rfl, by rw [hv]; exact g1.2.2.2, g2, g3, ?_, rfl⟩)
        · have q : (if k.1 = x4 then k.2 else rf_look r x4) = rf_look y a1 := g4
          rw [if_pos e] at q
          rw [hz, q]
          exact hK
        · exact Nat.lt_succ_self _
        · have q : (if k.1 = x4 then k.2 else rf_look r x4) = rf_look y a1 := g4
          rw [if_neg e] at q
          exact q
      | .inner (m + 1) k _ l r, g1, g2, g4 =>
        exfalso
        have q : max (rf_dp l + 1) (rf_dp r) ≤ 0 := g2
        omega
  | succ D ih =>
    intro d hd y a0 a1 s K hI hD hy h1 hK
    obtain ⟨d, rfl⟩ : ∃ e, d = e + 2 := ⟨d - 2, by omega⟩
    have h71 := hI.fld 66 71 (by decide) rfl
    refine sx_methL (wr := true) (n := 400) (n' := 400) (stop := [(5, [0, 3, 4])]) (fun n pc ls u => (pc = 5 ∧ ∃ (x3 x4 : Int) (y' : rf_Y), ls = [(0, .inr (.inl 66)), (3, .inl x3), (4, .inl x4)] ∧ u = s ∧ rf_bs s y' x3 ∧ rf_dp y' ≤ D + 1 ∧ (-2147483648 ≤ x4 ∧ x4 ≤ 2147483647) ∧ rf_look y' x4 = rf_look y a1 ∧ n = rf_yl y')) hsL (e := eX12_look) rfl ?_ ?_
    · exact w_look_0 hI ⟨_, rfl, a0, a1, y, rfl, rfl, hy, hD, h1, rfl, rfl⟩
    · rintro n pc ls u ⟨rfl, x3, x4, y', rfl, rfl, g1, g2, g3, g4, rfl⟩
      match y', g1, g2, g4 with
      | .leaf, g1, g2, g4 => exact w_look_l hI g1 g3 (by have e : x4 = rf_look y a1 := g4; rw [e]; exact hK)
      | .inner 0 k _ l r, g1, g2, g4 =>
        refine w_look_o hI ⟨g1.1.1, by have := g1.1.2.1; omega⟩ g3 g1.2.1 g1.1.2.2 g1.2.2.1 (fun z hz e => ?_) (fun v hv e => ⟨_, ?_, rfl, v, x4, r, rfl, rfl, by rw [hv]; exact g1.2.2.2, g2, g3, ?_, rfl⟩)
        · have q : (if k.1 = x4 then k.2 else rf_look r x4) = rf_look y a1 := g4
          rw [if_pos e] at q
          rw [hz, q]
          exact hK
        · exact Nat.lt_succ_self _
        · have q : (if k.1 = x4 then k.2 else rf_look r x4) = rf_look y a1 := g4
          rw [if_neg e] at q
          exact q
      | .inner (m + 1) k _ l r, g1, g2, g4 =>
        have q : max (rf_dp l + 1) (rf_dp r) ≤ D + 1 := g2
        refine w_look_a hI ⟨g1.1.1, by have := g1.1.2; omega⟩ g3 g1.2.1 (z0 := rf_look l x4) (fun v K' hv hK' => ?_) (fun v hv => ⟨_, ?_, rfl, v, rf_look l x4, r, rfl, rfl, by rw [hv]; exact g1.2.2.2, by omega, rf_look_in hI g1.2.2.1 g3, g4, rfl⟩)
        · exact ih (d + 1) (by omega) l v x4 _ K' hI (by omega) (by rw [hv]; exact g1.2.2.1) g3 hK'
        · exact Nat.lt_succ_self _
