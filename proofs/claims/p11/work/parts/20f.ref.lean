/-! ===== the reference: a part is put behind the last one (read nodes, nodes) ===== -/
def rf_len : rf_N → Nat
  | .leaf => 0
  | .inner _ _ _ _ x => rf_len x + 1
theorem rf_last_d {t : rf_N} (d e : Nat) (h : t ≠ .leaf) : rf_last t d = rf_last t e := by
  cases t with
  | leaf => exact absurd rfl h
  | inner j k u f x => rfl

theorem w_r_add {CALL : sx_Ca} {sL : Nat} {sx : Nat → Int32} {Q : Nat → sx_L → sx_S → Prop} {R : Int → sx_S → Prop} {s : sx_S} {a0 a1 : Int} {f : rf_N} (hI : cx_I s) (p0 : 0 ≤ a0 ∧ a0 ≤ 599) (p1 : -1 ≤ a1 ∧ a1 ≤ 599) (hf : rf_nd (s.2.1 74) (s.2.1 75) (s.2.1 80) (s.2.1 81) (s.1 66 12) f (s.2.1 80 a0.toNat)) (hK1 : f = .leaf → R 0 (s.1, sx_ua s.2.1 80 a0.toNat a1, s.2.2)) (hK2 : ∀ l : Nat, f ≠ .leaf → l = rf_last f 0 → R 0 (s.1, sx_ua s.2.1 81 l a1, s.2.2)) (hQ : ∀ (x3 : Int) (g : rf_N), rf_nd (s.2.1 74) (s.2.1 75) (s.2.1 80) (s.2.1 81) (s.1 66 12) g x3 → g ≠ .leaf → rf_last g 0 = rf_last f 0 → f ≠ .leaf → Q 25 [(0, .inr (.inl 66)), (2, .inl a1), (3, .inl x3)] s) : sx_wp true sL sx eX12_add CALL [(25, [0, 2, 3])] Q R 400 0 (sx_argsF 0 [.inr (.inl 66), .inl a0, .inl a1]) [] s := by
  have hr := rf_nd_rng hf
  have hN := hI.fld 66 12 (by decide) rfl
  have hn : s.2.1 80 a0.toNat = -1 → f = .leaf := rf_nd_nil hf
  have hc : s.2.1 80 a0.toNat ≠ -1 → f ≠ .leaf := fun h e => by
    rw [e] at hf
    exact h hf
  repeat' (first | (with_reducible intro _) | (refine And.intro ?_ ?_) | (refine hK1 ?_) | (refine hQ _ f ?_ ?_ rfl ?_))
  all_goals (try dsimp only)
  all_goals (first | trivial | omega | (dsimp only at *; omega) | assumption | (subst_vars; assumption) | (subst_vars; exact hn (by omega)) | (subst_vars; exact hc (by omega)))
theorem w_r_add_25 {CALL : sx_Ca} {sL : Nat} {sx : Nat → Int32} {Q : Nat → sx_L → sx_S → Prop} {R : Int → sx_S → Prop} {s : sx_S} {a0 a1 : Int} {f : rf_N} (hI : cx_I s) (p0 : 0 ≤ a0 ∧ a0 ≤ 599) (p1 : -1 ≤ a1 ∧ a1 ≤ 599) (hf : rf_nd (s.2.1 74) (s.2.1 75) (s.2.1 80) (s.2.1 81) (s.1 66 12) f (s.2.1 80 a0.toNat)) (hK1 : f = .leaf → R 0 (s.1, sx_ua s.2.1 80 a0.toNat a1, s.2.2)) (hK2 : ∀ l : Nat, f ≠ .leaf → l = rf_last f 0 → R 0 (s.1, sx_ua s.2.1 81 l a1, s.2.2)) (hfl : f ≠ .leaf) {x3 : Int} {g : rf_N} {mm : Nat} (hm : mm = rf_len g) (hg : rf_nd (s.2.1 74) (s.2.1 75) (s.2.1 80) (s.2.1 81) (s.1 66 12) g x3) (hgl : g ≠ .leaf) (hgf : rf_last g 0 = rf_last f 0) (hQ : ∀ (x3 : Int) (g : rf_N), rf_nd (s.2.1 74) (s.2.1 75) (s.2.1 80) (s.2.1 81) (s.1 66 12) g x3 → g ≠ .leaf → rf_last g 0 = rf_last f 0 → f ≠ .leaf → rf_len g < mm → Q 25 [(0, .inr (.inl 66)), (2, .inl a1), (3, .inl x3)] s) : sx_wp true sL sx eX12_add CALL [(25, [0, 2, 3])] Q R 400 25 [(0, .inr (.inl 66)), (2, .inl a1), (3, .inl x3)] [] s := by
  have hN := hI.fld 66 12 (by decide) rfl
  obtain ⟨g1, g2, rfl, h0, h1, hg1, hg2⟩ := rf_nd_cons hg (fun e => hgl (rf_nd_nil hg e))
  have hr := rf_nd_rng hg2
  have hn : s.2.1 81 x3.toNat = -1 → g2 = .leaf := rf_nd_nil hg2
  have hc : s.2.1 81 x3.toNat ≠ -1 → g2 ≠ .leaf := fun h e => by
    rw [e] at hg2
    exact h hg2
  have hl : g2 ≠ .leaf → rf_last g2 0 = rf_last f 0 := fun h => by
    rw [← hgf]
    exact rf_last_d _ _ h
  have hl0 : g2 = .leaf → x3.toNat = rf_last f 0 := fun h => by
    rw [← hgf, h]
    rfl
  have hlen : rf_len g2 < mm := by
    rw [hm]
    exact Nat.lt_succ_self _
  repeat' (first | (with_reducible intro _) | (refine And.intro ?_ ?_) | (refine hK2 _ ?_ ?_) | (refine hQ _ g2 ?_ ?_ ?_ hfl hlen))
  all_goals (try dsimp only)
  all_goals (first | trivial | omega | (dsimp only at *; omega) | assumption | (subst_vars; assumption) | (subst_vars; exact hc (by omega)) | (subst_vars; exact hl (hc (by omega))) | (subst_vars; exact hl0 (hn (by omega))))
theorem c_r_add {sL : Nat} {sx : Nat → Int32} (hsL : sL ≤ 3072) (d : Nat) (hd : 2 ≤ d) : ∀ (a0 a1 : Int) (f : rf_N) (s : sx_S) (K : Int → sx_S → Prop), cx_I s → (0 ≤ a0 ∧ a0 ≤ 599) → (-1 ≤ a1 ∧ a1 ≤ 599) → rf_nd (s.2.1 74) (s.2.1 75) (s.2.1 80) (s.2.1 81) (s.1 66 12) f (s.2.1 80 a0.toNat) → (f = .leaf → K 0 (s.1, sx_ua s.2.1 80 a0.toNat a1, s.2.2)) → (∀ l : Nat, f ≠ .leaf → l = rf_last f 0 → K 0 (s.1, sx_ua s.2.1 81 l a1, s.2.2)) → sx_C sL sx d 162 [.inr (.inl 66), .inl a0, .inl a1] s K := by
  intro a0 a1 f s K hI p0 p1 hf hK1 hK2
  obtain ⟨d, rfl⟩ : ∃ e, d = e + 2 := ⟨d - 2, by omega⟩
  · refine sx_methL (wr := true) (n := 400) (n' := 400) (stop := [(25, [0, 2, 3])]) (fun n pc ls u => (pc = 25 ∧ ∃ (x3 : Int) (g : rf_N), ls = [(0, .inr (.inl 66)), (2, .inl a1), (3, .inl x3)] ∧ u = s ∧ rf_nd (s.2.1 74) (s.2.1 75) (s.2.1 80) (s.2.1 81) (s.1 66 12) g x3 ∧ g ≠ .leaf ∧ rf_last g 0 = rf_last f 0 ∧ f ≠ .leaf ∧ n = rf_len g)) hsL (e := eX12_add) rfl ?_ ?_
    · exact w_r_add hI p0 p1 hf hK1 hK2 (fun x3 g i0 i1 i2 i3 => ⟨_, rfl, x3, g, rfl, rfl, i0, i1, i2, i3, rfl⟩)
    · rintro n pc ls u ⟨rfl, x3, g, rfl, rfl, i0, i1, i2, i3, rfl⟩
      exact w_r_add_25 hI p0 p1 hf hK1 hK2 i3 rfl i0 i1 i2 (fun x3 g i0 i1 i2 i3 hm => ⟨_, hm, rfl, x3, g, rfl, rfl, i0, i1, i2, i3, rfl⟩)

theorem w_r_append {CALL : sx_Ca} {sL : Nat} {sx : Nat → Int32} {Q : Nat → sx_L → sx_S → Prop} {R : Int → sx_S → Prop} {s : sx_S} {a0 a1 : Int} {f : rf_N} (hI : cx_I s) (p0 : 0 ≤ a0 ∧ a0 ≤ 59999) (p1 : -1 ≤ a1 ∧ a1 ≤ 59999) (hf : rf_nd (s.2.1 100) (s.2.1 101) (s.2.1 102) (s.2.1 103) (s.1 66 50) f (s.2.1 102 a0.toNat)) (hK1 : f = .leaf → R 0 (s.1, sx_ua s.2.1 102 a0.toNat a1, s.2.2)) (hK2 : ∀ l : Nat, f ≠ .leaf → l = rf_last f 0 → R 0 (s.1, sx_ua s.2.1 103 l a1, s.2.2)) (hQ : ∀ (x3 : Int) (g : rf_N), rf_nd (s.2.1 100) (s.2.1 101) (s.2.1 102) (s.2.1 103) (s.1 66 50) g x3 → g ≠ .leaf → rf_last g 0 = rf_last f 0 → f ≠ .leaf → Q 25 [(0, .inr (.inl 66)), (2, .inl a1), (3, .inl x3)] s) : sx_wp true sL sx eX12_append CALL [(25, [0, 2, 3])] Q R 400 0 (sx_argsF 0 [.inr (.inl 66), .inl a0, .inl a1]) [] s := by
  have hr := rf_nd_rng hf
  have hN := hI.fld 66 50 (by decide) rfl
  have hn : s.2.1 102 a0.toNat = -1 → f = .leaf := rf_nd_nil hf
  have hc : s.2.1 102 a0.toNat ≠ -1 → f ≠ .leaf := fun h e => by
    rw [e] at hf
    exact h hf
  repeat' (first | (with_reducible intro _) | (refine And.intro ?_ ?_) | (refine hK1 ?_) | (refine hQ _ f ?_ ?_ rfl ?_))
  all_goals (try dsimp only)
  all_goals (first | trivial | omega | (dsimp only at *; omega) | assumption | (subst_vars; assumption) | (subst_vars; exact hn (by omega)) | (subst_vars; exact hc (by omega)))
theorem w_r_append_25 {CALL : sx_Ca} {sL : Nat} {sx : Nat → Int32} {Q : Nat → sx_L → sx_S → Prop} {R : Int → sx_S → Prop} {s : sx_S} {a0 a1 : Int} {f : rf_N} (hI : cx_I s) (p0 : 0 ≤ a0 ∧ a0 ≤ 59999) (p1 : -1 ≤ a1 ∧ a1 ≤ 59999) (hf : rf_nd (s.2.1 100) (s.2.1 101) (s.2.1 102) (s.2.1 103) (s.1 66 50) f (s.2.1 102 a0.toNat)) (hK1 : f = .leaf → R 0 (s.1, sx_ua s.2.1 102 a0.toNat a1, s.2.2)) (hK2 : ∀ l : Nat, f ≠ .leaf → l = rf_last f 0 → R 0 (s.1, sx_ua s.2.1 103 l a1, s.2.2)) (hfl : f ≠ .leaf) {x3 : Int} {g : rf_N} {mm : Nat} (hm : mm = rf_len g) (hg : rf_nd (s.2.1 100) (s.2.1 101) (s.2.1 102) (s.2.1 103) (s.1 66 50) g x3) (hgl : g ≠ .leaf) (hgf : rf_last g 0 = rf_last f 0) (hQ : ∀ (x3 : Int) (g : rf_N), rf_nd (s.2.1 100) (s.2.1 101) (s.2.1 102) (s.2.1 103) (s.1 66 50) g x3 → g ≠ .leaf → rf_last g 0 = rf_last f 0 → f ≠ .leaf → rf_len g < mm → Q 25 [(0, .inr (.inl 66)), (2, .inl a1), (3, .inl x3)] s) : sx_wp true sL sx eX12_append CALL [(25, [0, 2, 3])] Q R 400 25 [(0, .inr (.inl 66)), (2, .inl a1), (3, .inl x3)] [] s := by
  have hN := hI.fld 66 50 (by decide) rfl
  obtain ⟨g1, g2, rfl, h0, h1, hg1, hg2⟩ := rf_nd_cons hg (fun e => hgl (rf_nd_nil hg e))
  have hr := rf_nd_rng hg2
  have hn : s.2.1 103 x3.toNat = -1 → g2 = .leaf := rf_nd_nil hg2
  have hc : s.2.1 103 x3.toNat ≠ -1 → g2 ≠ .leaf := fun h e => by
    rw [e] at hg2
    exact h hg2
  have hl : g2 ≠ .leaf → rf_last g2 0 = rf_last f 0 := fun h => by
    rw [← hgf]
    exact rf_last_d _ _ h
  have hl0 : g2 = .leaf → x3.toNat = rf_last f 0 := fun h => by
    rw [← hgf, h]
    rfl
  have hlen : rf_len g2 < mm := by
    rw [hm]
    exact Nat.lt_succ_self _
  repeat' (first | (with_reducible intro _) | (refine And.intro ?_ ?_) | (refine hK2 _ ?_ ?_) | (refine hQ _ g2 ?_ ?_ ?_ hfl hlen))
  all_goals (try dsimp only)
  all_goals (first | trivial | omega | (dsimp only at *; omega) | assumption | (subst_vars; assumption) | (subst_vars; exact hc (by omega)) | (subst_vars; exact hl (hc (by omega))) | (subst_vars; exact hl0 (hn (by omega))))
theorem c_r_append {sL : Nat} {sx : Nat → Int32} (hsL : sL ≤ 3072) (d : Nat) (hd : 2 ≤ d) : ∀ (a0 a1 : Int) (f : rf_N) (s : sx_S) (K : Int → sx_S → Prop), cx_I s → (0 ≤ a0 ∧ a0 ≤ 59999) → (-1 ≤ a1 ∧ a1 ≤ 59999) → rf_nd (s.2.1 100) (s.2.1 101) (s.2.1 102) (s.2.1 103) (s.1 66 50) f (s.2.1 102 a0.toNat) → (f = .leaf → K 0 (s.1, sx_ua s.2.1 102 a0.toNat a1, s.2.2)) → (∀ l : Nat, f ≠ .leaf → l = rf_last f 0 → K 0 (s.1, sx_ua s.2.1 103 l a1, s.2.2)) → sx_C sL sx d 179 [.inr (.inl 66), .inl a0, .inl a1] s K := by
  intro a0 a1 f s K hI p0 p1 hf hK1 hK2
  obtain ⟨d, rfl⟩ : ∃ e, d = e + 2 := ⟨d - 2, by omega⟩
  · refine sx_methL (wr := true) (n := 400) (n' := 400) (stop := [(25, [0, 2, 3])]) (fun n pc ls u => (pc = 25 ∧ ∃ (x3 : Int) (g : rf_N), ls = [(0, .inr (.inl 66)), (2, .inl a1), (3, .inl x3)] ∧ u = s ∧ rf_nd (s.2.1 100) (s.2.1 101) (s.2.1 102) (s.2.1 103) (s.1 66 50) g x3 ∧ g ≠ .leaf ∧ rf_last g 0 = rf_last f 0 ∧ f ≠ .leaf ∧ n = rf_len g)) hsL (e := eX12_append) rfl ?_ ?_
    · exact w_r_append hI p0 p1 hf hK1 hK2 (fun x3 g i0 i1 i2 i3 => ⟨_, rfl, x3, g, rfl, rfl, i0, i1, i2, i3, rfl⟩)
    · rintro n pc ls u ⟨rfl, x3, g, rfl, rfl, i0, i1, i2, i3, rfl⟩
      exact w_r_append_25 hI p0 p1 hf hK1 hK2 i3 rfl i0 i1 i2 (fun x3 g i0 i1 i2 i3 hm => ⟨_, hm, rfl, x3, g, rfl, rfl, i0, i1, i2, i3, rfl⟩)
