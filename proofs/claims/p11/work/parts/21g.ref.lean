/-! ===== the reference: a body is entered ===== -/
theorem w_enter {CALL : sx_Ca} {sL : Nat} {sx : Nat → Int32} {Q : Nat → sx_L → sx_S → Prop} {R : Int → sx_S → Prop} {s : sx_S} {a0 a1 : Int} (hI : cx_I s) (p0 : 0 ≤ a0 ∧ a0 ≤ 59999) (hQ : ∀ x3 : Int, x3 = s.2.1 101 a0.toNat → Q 13 [(0, .inr (.inl 66)), (1, .inl a0), (2, .inl a1), (3, .inl x3), (4, .inl (-1)), (5, .inl 0)] s) : sx_wp true sL sx eX12_enter CALL [(13, [0, 1, 2, 3, 4, 5])] Q R 400 0 (sx_argsF 0 [.inr (.inl 66), .inl a0, .inl a1]) [] s := by
  repeat' (first | (with_reducible intro _) | (refine And.intro ?_ ?_) | (refine hQ _ ?_))
  all_goals (try dsimp only)
  all_goals (first | trivial | omega | assumption)
theorem w_enter_13 {CALL : sx_Ca} {sL : Nat} {sx : Nat → Int32} {Q : Nat → sx_L → sx_S → Prop} {R : Int → sx_S → Prop} (h_name : ∀ (a0 a1 a2 : Int) (s : sx_S) (K : Int → sx_S → Prop), cx_I s → (-2147483648 ≤ a0 ∧ a0 ≤ 2147483647) → (-2147483648 ≤ a1 ∧ a1 ≤ 2147483647) → (-1 ≤ a2 ∧ a2 ≤ 399999) → (s.1 66 71 ≤ 399999) → (∀ (z : Int) (t : sx_S), cx_I t → cx_F [(66, 66), (115, 117)] s t → (z = s.1 66 71) → (t.1 66 71 = s.1 66 71 + 1) → (rf_f [71] s t) → (rf_ag 115 117 (s.1 66 71) s t) → (rf_nm t z a0 a1 a2) → K z t) → CALL 184 [.inr (.inl 66), .inl a0, .inl a1, .inl a2] s K) {t : sx_S} {a0 a1 x3 x4 x5 w : Int} {PB : Int → sx_S → Prop} (hI : cx_I t) (p0 : 0 ≤ a0 ∧ a0 ≤ 59999) (q3 : 0 ≤ x3 ∧ x3 ≤ 2999) (q4 : -1 ≤ x4 ∧ x4 ≤ 399999) (q5 : 0 ≤ x5 ∧ x5 ≤ 4) (hn : t.1 66 71 ≤ 399990) (hs : x5 < t.2.1 108 x3.toNat → t.2.1 112 x3.toNat + x5 ≤ 119999) (hw : -2147483648 ≤ w ∧ w ≤ 2147483647) (hV : x5 < t.2.1 108 x3.toNat → ∀ K : Int → sx_S → Prop, K w t → CALL 187 [.inr (.inl 66), .inl a0, .inl a1, .inl x5] t K) (hB : t.2.1 108 x3.toNat ≤ x5 → ∀ (u : Int) (K : Int → sx_S → Prop), u = t.2.1 114 x3.toNat → (∀ z t', PB z t' → K z t') → CALL 185 [.inr (.inl 66), .inl u, .inl x4] t K) (hK : ∀ z t', PB z t' → R z t') (hQ : ∀ (f y5 z : Int) (t' : sx_S), rf_nm t' z f w x4 → x5 < t.2.1 108 x3.toNat → f = t.2.1 105 (t.2.1 112 x3.toNat + x5).toNat → y5 = x5 + 1 → cx_I t' → cx_F [(66, 66), (115, 117)] t t' → z = t.1 66 71 → t'.1 66 71 = t.1 66 71 + 1 → rf_f [71] t t' → rf_ag 115 117 (t.1 66 71) t t' → Q 13 [(0, .inr (.inl 66)), (1, .inl a0), (2, .inl a1), (3, .inl x3), (4, .inl z), (5, .inl y5)] t') : sx_wp true sL sx eX12_enter CALL [(13, [0, 1, 2, 3, 4, 5])] Q R 400 13 [(0, .inr (.inl 66)), (1, .inl a0), (2, .inl a1), (3, .inl x3), (4, .inl x4), (5, .inl x5)] [] t := by
  have h112 := hI.arr 112 (by decide) rfl x3.toNat
  have h108 := hI.arr 108 (by decide) rfl x3.toNat
  repeat' (first | (with_reducible intro _) | (refine And.intro ?_ ?_) | (refine hK _ _ ?_) | (refine hQ _ _ _ _ (by assumption) ?_ ?_ ?_ ?_ ?_ ?_ ?_ ?_ ?_) | (refine hV (by first | omega | (dsimp only at *; omega)) _ ?_) | (refine hB (by first | omega | (dsimp only at *; omega)) _ _ ?_ ?_) | (refine h_name _ _ _ _ _ ?_ ?_ ?_ ?_ ?_ ?_))
  all_goals (try dsimp only)
  all_goals (first | trivial | assumption | omega | (dsimp only at *; omega) | (simp only [sx_w_t] at *; omega) | (subst_vars; dsimp only at *; rw [rf_wid (z := t.2.1 112 x3.toNat + x5) (by omega) (by omega)]) | (subst_vars; assumption) | (subst_vars; dsimp only at *; simp only [sx_w_t] at *; omega))
theorem c_r_enter {sL : Nat} {sx : Nat → Int32} (hsL : sL ≤ 3072) (D d : Nat) (hd : D + 4 ≤ d) : ∀ (y ys : rf_Y) (a0 a1 m : Int) (s : sx_S) (K : Int → sx_S → Prop), cx_I s → (0 ≤ a0 ∧ a0 ≤ 59999) → m = s.2.1 101 a0.toNat → (0 ≤ m ∧ m ≤ 2999) → s.1 66 71 ≤ 399980 → (∀ k : Nat, (k : Int) < s.2.1 108 m.toNat → s.2.1 112 m.toNat + (k : Int) ≤ 119999 ∧ s.2.1 104 a0.toNat + (k : Int) ≤ 119999 ∧ s.2.1 105 (s.2.1 112 m.toNat + (k : Int)).toNat ≠ -1) → rf_dp y ≤ D → rf_bs s y a1 → rf_bs s ys (s.2.1 114 m.toNat) → (∀ (z : Int) (t : sx_S), cx_I t → cx_F [(66, 66), (115, 117)] s t → rf_f [71] s t → rf_ag 115 117 (s.1 66 71) s t → (s.1 66 71 ≤ t.1 66 71 ∧ t.1 66 71 ≤ s.1 66 71 + s.2.1 108 m.toNat + 1) → rf_bs t (rf_bh ys (rf_row (fun k => s.2.1 105 (s.2.1 112 m.toNat + (k : Int)).toNat) (rf_vo s y a0) (s.2.1 108 m.toNat).toNat)) z → K z t) → sx_C sL sx d 188 [.inr (.inl 66), .inl a0, .inl a1] s K := by
  intro y ys a0 a1 m s K hI p0 hm p1 hn hrow hD hy hys hK
  obtain ⟨d, rfl⟩ : ∃ e, d = e + 2 := ⟨d - 2, by omega⟩
  have h108 := hI.arr 108 (by decide) rfl m.toNat
  have h71 := hI.fld 66 71 (by decide) rfl
  subst hm
  generalize hmm : s.2.1 101 a0.toNat = m at *
  refine sx_methL (wr := true) (n := 400) (n' := 400) (stop := [(13, [0, 1, 2, 3, 4, 5])]) (fun n pc ls u => (pc = 13 ∧ ∃ (x4 x5 : Int), ls = [(0, .inr (.inl 66)), (1, .inl a0), (2, .inl a1), (3, .inl m), (4, .inl x4), (5, .inl x5)] ∧ cx_I u ∧ cx_F [(66, 66), (115, 117)] s u ∧ rf_f [71] s u ∧ rf_ag 115 117 (s.1 66 71) s u ∧ u.1 66 71 = s.1 66 71 + x5 ∧ (0 ≤ x5 ∧ x5 ≤ s.2.1 108 m.toNat) ∧ rf_bs u (rf_row (fun k => s.2.1 105 (s.2.1 112 m.toNat + (k : Int)).toNat) (rf_vo s y a0) x5.toNat) x4 ∧ n = (4 - x5).toNat)) hsL (e := eX12_enter) rfl ?_ ?_
  · refine w_enter hI p0 (fun x3 h3 => ?_)
    rw [hmm] at h3
    subst h3
    exact ⟨_, rfl, -1, 0, rfl, hI, cx_F_refl _ _, rf_f_refl _ _, rf_ag_refl _ _ _ _, by omega, by omega, rfl, rfl⟩
  · rintro n pc ls u ⟨rfl, x4, x5, rfl, j1, j2, j3, j4, j5, j6, j7, rfl⟩
    have e101 := (j2.same 101 rfl).2
    have e104 := (j2.same 104 rfl).2
    have e105 := (j2.same 105 rfl).2
    have e108 := (j2.same 108 rfl).2
    have e112 := (j2.same 112 rfl).2
    have e114 := (j2.same 114 rfl).2
    have hr4 := rf_by_hi j7
    have hyu := rf_bs_up hy j4 (by omega)
    have hysu := rf_bs_up hys j4 (by omega)
    have hvo : ∀ k, rf_vo u y a0 k = rf_vo s y a0 k := fun k => by
      unfold rf_vo
      rw [e105, e104]
    refine w_enter_13 (w := rf_vo s y a0 x5.toNat) (PB := fun z t => cx_I t ∧ cx_F [(66, 66), (115, 117)] s t ∧ rf_f [71] s t ∧ rf_ag 115 117 (s.1 66 71) s t ∧ (s.1 66 71 ≤ t.1 66 71 ∧ t.1 66 71 ≤ s.1 66 71 + s.2.1 108 m.toNat + 1) ∧ rf_bs t (rf_bh ys (rf_row (fun k => s.2.1 105 (s.2.1 112 m.toNat + (k : Int)).toNat) (rf_vo s y a0) (s.2.1 108 m.toNat).toNat)) z) (c_r_name hsL (d + 1) (by omega)) j1 p0 p1 (by omega) (by omega) (by omega) ?_ ?_ ?_ ?_ ?_ ?_
    · intro hx
      rw [e108] at hx
      rw [e112]
      have := (hrow x5.toNat (by omega)).1
      omega
    · exact rf_look_in hI hy (hI.arr 105 (by decide) rfl _)
    · intro hx K' hK'
      rw [e108] at hx
      have h4 := (hrow x5.toNat (by omega)).2.1
      refine c_r_varOf hsL D (d + 1) (by omega) y a0 a1 x5 u K' j1 p0 (by omega) (by rw [e104]; omega) hD hyu ?_
      rw [hvo]
      exact hK'
    · intro hx v K' hv hK'
      rw [e108] at hx
      rw [e114] at hv
      subst hv
      have ex : x5 = s.2.1 108 m.toNat := by omega
      refine c_r_behind hsL (d + 1) (by omega) ys _ _ x4 u K' j1 (by omega) hysu j7 (fun z t g1 g2 g3 g4 g5 g6 => hK' z t ⟨g1, cx_F_step g2 rfl j2, rf_f_step g4 rfl j3, rf_ag_trans g5 (by omega) j4, by omega, ?_⟩)
      rw [← ex]
      exact g6
    · rintro z t ⟨g1, g2, g3, g4, g5, g6⟩
      exact hK z t g1 g2 g3 g4 g5 g6
    · intro f y5 z t' g7 hx hf hy5 g1 g2 g3 g4 g5 g6
      rw [e108] at hx
      rw [e105, e112] at hf
      subst hy5
      refine ⟨_, ?_, rfl, z, x5 + 1, rfl, g1, cx_F_step g2 rfl j2, rf_f_step g5 rfl j3, rf_ag_trans g6 (by omega) j4, by omega, by omega, ?_, rfl⟩
      · have h9 := h108.2
        omega
      · have ek : (x5 + 1).toNat = x5.toNat + 1 := by omega
        rw [ek]
        have hfk : f = s.2.1 105 (s.2.1 112 m.toNat + ((x5.toNat : Nat) : Int)).toNat := by
          rw [hf, show ((x5.toNat : Nat) : Int) = x5 from by omega]
        rw [hfk] at g7
        exact rf_bs_one ⟨by omega, by omega⟩ g7 (hrow x5.toNat (by omega)).2.2 (rf_bs_up j7 g6 (by omega))
