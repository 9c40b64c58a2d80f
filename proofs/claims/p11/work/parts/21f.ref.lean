/-! ===== the reference: names of a body ===== -/
theorem rf_wid {z : Int} (h0 : -2147483648 ≤ z) (h1 : z ≤ 2147483647) : sx_w true z = z := by
  rw [sx_w_t]
  omega
def rf_vo (s : sx_S) (y : rf_Y) (n : Int) (k : Nat) : Int := rf_look y (s.2.1 105 (s.2.1 104 n.toNat + (k : Int)).toNat)
theorem w_varOf {CALL : sx_Ca} {sL : Nat} {sx : Nat → Int32} {Q : Nat → sx_L → sx_S → Prop} {R : Int → sx_S → Prop} {s : sx_S} {a0 a1 a2 z0 : Int} (hI : cx_I s) (p0 : 0 ≤ a0 ∧ a0 ≤ 59999) (p2 : 0 ≤ a2 ∧ a2 ≤ 4) (p3 : s.2.1 104 a0.toNat + a2 ≤ 119999) (hC : ∀ (u : Int) (K : Int → sx_S → Prop), u = s.2.1 105 (s.2.1 104 a0.toNat + a2).toNat → K z0 s → CALL 186 [.inr (.inl 66), .inl a1, .inl u] s K) (hK : R z0 s) : sx_wp true sL sx eX12_varOf CALL [] Q R 400 0 (sx_argsF 0 [.inr (.inl 66), .inl a0, .inl a1, .inl a2]) [] s := by
  repeat' (first | (with_reducible intro _) | (refine And.intro ?_ ?_) | (exact hK) | (refine hC _ _ ?_ ?_))
  all_goals (try dsimp only)
  all_goals (first | trivial | omega | (dsimp only at *; omega) | (simp only [sx_w_t] at *; omega) | (subst_vars; dsimp only at *; rw [rf_wid (z := s.2.1 104 a0.toNat + a2) (by omega) (by omega)]) | (subst_vars; simp only [sx_w_t] at *; omega))
theorem c_r_varOf {sL : Nat} {sx : Nat → Int32} (hsL : sL ≤ 3072) (D d : Nat) (hd : D + 3 ≤ d) : ∀ (y : rf_Y) (a0 a1 a2 : Int) (s : sx_S) (K : Int → sx_S → Prop), cx_I s → (0 ≤ a0 ∧ a0 ≤ 59999) → (0 ≤ a2 ∧ a2 ≤ 4) → s.2.1 104 a0.toNat + a2 ≤ 119999 → rf_dp y ≤ D → rf_bs s y a1 → K (rf_vo s y a0 a2.toNat) s → sx_C sL sx d 187 [.inr (.inl 66), .inl a0, .inl a1, .inl a2] s K := by
  intro y a0 a1 a2 s K hI p0 p2 p3 hD hy hK
  obtain ⟨d, rfl⟩ : ∃ e, d = e + 2 := ⟨d - 2, by omega⟩
  have e : ((a2.toNat : Nat) : Int) = a2 := by omega
  unfold rf_vo at hK
  rw [e] at hK
  exact sx_meth (wr := true) (n := 400) hsL (e := eX12_varOf) rfl (w_varOf (Q := fun _ _ _ => False) hI p0 p2 p3 (fun u K' hu hK' => c_r_look hsL D (d + 1) (by omega) y a1 u s K' hI hD hy (by rw [hu]; exact hI.arr 105 (by decide) rfl _) (by rw [hu]; exact hK')) hK)
/-- the names of a body, then a row -/
def rf_bh (a b : rf_Y) : rf_Y := match a with
  | .leaf => b
  | .inner n k u l r => match b with
    | .leaf => .inner n k u l r
    | .inner n' k' u' l' r' => rf_app (.inner n k u l r) (.inner n' k' u' l' r')
theorem rf_bh_look (a b : rf_Y) (v : Int) : rf_look (rf_bh a b) v = rf_look b (rf_look a v) := by
  cases a with
  | leaf => rfl
  | inner n k u l r =>
    cases b with
    | leaf => rfl
    | inner n' k' u' l' r' => rfl
theorem rf_bh_dp (a b : rf_Y) : rf_dp (rf_bh a b) ≤ max (rf_dp a + 1) (rf_dp b) := by
  cases a with
  | leaf => exact Nat.le_max_right _ _
  | inner n k u l r =>
    cases b with
    | leaf =>
      show rf_dp (.inner n k u l r) ≤ _
      omega
    | inner n' k' u' l' r' => exact Nat.le_refl _
theorem rf_bs_nil {s : sx_S} {y : rf_Y} {i : Int} (h : rf_bs s y i) (e : i = -1) : y = .leaf := by
  match y, h with
  | .leaf, _ => rfl
  | .inner 0 _ _ _ _, h => exact absurd h.1.1 (by omega)
  | .inner (_ + 1) _ _ _ _, h => exact absurd h.1.1 (by omega)
theorem rf_bs_cons {s : sx_S} {y : rf_Y} {i : Int} (h : rf_bs s y i) (e : i ≠ -1) : y ≠ .leaf := by
  intro q
  subst q
  exact e h
theorem rf_bs_up {s t : sx_S} {y : rf_Y} {i : Int} (h : rf_bs s y i) (ha : rf_ag 115 117 (s.1 66 71) s t) (hn : s.1 66 71 ≤ t.1 66 71) : rf_bs t y i :=
  rf_by_mono (fun j hj => ⟨ha 115 j (by omega) (by omega) hj, ha 116 j (by omega) (by omega) hj, ha 117 j (by omega) (by omega) hj⟩) hn h
theorem rf_bs_one {s : sx_S} {y : rf_Y} {z a b i : Int} (hz : 0 ≤ z ∧ z < s.1 66 71) (hn : rf_nm s z a b i) (ha : a ≠ -1) (h : rf_bs s y i) : rf_bs s (rf_one a b y) z := by
  obtain ⟨h1, h2, h3⟩ := hn trivial
  refine ⟨⟨hz.1, hz.2, ha⟩, h1, h2, ?_⟩
  rw [h3]
  exact h
theorem rf_bs_app {s : sx_S} {y w : rf_Y} {z i j : Int} (hz : 0 ≤ z ∧ z < s.1 66 71) (hn : rf_nm s z (-1) i j) (h : rf_bs s y i) (g : rf_bs s w j) : rf_bs s (rf_app y w) z := by
  obtain ⟨h1, h2, h3⟩ := hn trivial
  refine ⟨hz, h1, ?_, ?_⟩
  · rw [h2]
    exact h
  · rw [h3]
    exact g
theorem w_behind {CALL : sx_Ca} {sL : Nat} {sx : Nat → Int32} {Q : Nat → sx_L → sx_S → Prop} {R : Int → sx_S → Prop} {s : sx_S} (h_name : ∀ (a0 a1 a2 : Int) (s : sx_S) (K : Int → sx_S → Prop), cx_I s → (-2147483648 ≤ a0 ∧ a0 ≤ 2147483647) → (-2147483648 ≤ a1 ∧ a1 ≤ 2147483647) → (-1 ≤ a2 ∧ a2 ≤ 399999) → (s.1 66 71 ≤ 399999) → (∀ (z : Int) (t : sx_S), cx_I t → cx_F [(66, 66), (115, 117)] s t → (z = s.1 66 71) → (t.1 66 71 = s.1 66 71 + 1) → (rf_f [71] s t) → (rf_ag 115 117 (s.1 66 71) s t) → (rf_nm t z a0 a1 a2) → K z t) → CALL 184 [.inr (.inl 66), .inl a0, .inl a1, .inl a2] s K) {a0 a1 : Int} (hI : cx_I s) (p0 : -1 ≤ a0 ∧ a0 ≤ 399999) (p1 : -1 ≤ a1 ∧ a1 ≤ 399999) (p2 : s.1 66 71 ≤ 399999) (hK1 : a0 = -1 → R a1 s) (hK2 : a0 ≠ -1 → a1 = -1 → R a0 s) (hK3 : ∀ (z : Int) (t : sx_S), a0 ≠ -1 → a1 ≠ -1 → cx_I t → cx_F [(66, 66), (115, 117)] s t → z = s.1 66 71 → t.1 66 71 = s.1 66 71 + 1 → rf_f [71] s t → rf_ag 115 117 (s.1 66 71) s t → rf_nm t z (-1) a0 a1 → R z t) : sx_wp true sL sx eX12_behind CALL [] Q R 400 0 (sx_argsF 0 [.inr (.inl 66), .inl a0, .inl a1]) [] s := by
  repeat' (first | (with_reducible intro _) | (refine And.intro ?_ ?_) | (exact hK1 (by omega)) | (exact hK2 (by omega) (by omega)) | (exact hK3 _ _ (by omega) (by omega) (by assumption) (by assumption) (by assumption) (by assumption) (by assumption) (by assumption) (by assumption)) | (refine h_name _ _ _ _ _ ?_ ?_ ?_ ?_ ?_ ?_))
  all_goals (try dsimp only)
  all_goals (first | trivial | omega | assumption)
theorem c_r_behind {sL : Nat} {sx : Nat → Int32} (hsL : sL ≤ 3072) (d : Nat) (hd : 3 ≤ d) : ∀ (y w : rf_Y) (a0 a1 : Int) (s : sx_S) (K : Int → sx_S → Prop), cx_I s → s.1 66 71 ≤ 399999 → rf_bs s y a0 → rf_bs s w a1 → (∀ (z : Int) (t : sx_S), cx_I t → cx_F [(66, 66), (115, 117)] s t → (s.1 66 71 ≤ t.1 66 71 ∧ t.1 66 71 ≤ s.1 66 71 + 1) → rf_f [71] s t → rf_ag 115 117 (s.1 66 71) s t → rf_bs t (rf_bh y w) z → K z t) → sx_C sL sx d 185 [.inr (.inl 66), .inl a0, .inl a1] s K := by
  intro y w a0 a1 s K hI p2 hy hw hK
  obtain ⟨d, rfl⟩ : ∃ e, d = e + 2 := ⟨d - 2, by omega⟩
  have r0 := rf_by_hi hy
  have r1 := rf_by_hi hw
  have r2 := hI.fld 66 71 (by decide) rfl
  refine sx_meth (wr := true) (n := 400) hsL (e := eX12_behind) rfl (w_behind (Q := fun _ _ _ => False) (c_r_name hsL (d + 1) (by omega)) hI (by omega) (by omega) p2 (fun e => ?_) (fun e e1 => ?_) (fun z t e e1 j1 j2 j3 j4 j5 j6 j7 => ?_))
  · have q := rf_bs_nil hy e
    subst q
    exact hK _ _ hI (cx_F_refl _ _) ⟨Int.le_refl _, by omega⟩ (rf_f_refl _ _) (rf_ag_refl _ _ _ _) hw
  · have q := rf_bs_nil hw e1
    subst q
    refine hK _ _ hI (cx_F_refl _ _) ⟨Int.le_refl _, by omega⟩ (rf_f_refl _ _) (rf_ag_refl _ _ _ _) ?_
    cases y with
    | leaf => exact hy
    | inner n k u l r => exact hy
  · refine hK _ _ j1 j2 ⟨by omega, by omega⟩ j5 j6 ?_
    have q1 := rf_bs_cons hy e
    have q2 := rf_bs_cons hw e1
    have g1 := rf_bs_up hy j6 (by omega)
    have g2 := rf_bs_up hw j6 (by omega)
    cases y with
    | leaf => exact absurd rfl q1
    | inner n k u l r =>
      cases w with
      | leaf => exact absurd rfl q2
      | inner n' k' u' l' r' => exact rf_bs_app ⟨by omega, by omega⟩ j7 g1 g2
