/-! ===== the reference: distinct ===== -/
theorem cx_outb_66 {p : Nat} (h : p ≠ 66) : cx_outb [(66, 66)] p = true := by
  unfold cx_outb
  rw [Bool.and_eq_true, Bool.or_eq_true]
  refine ⟨?_, rfl⟩
  rcases Nat.lt_or_gt_of_ne h with q | q
  · exact Or.inl (Nat.ble_eq.mpr q)
  · exact Or.inr (Nat.ble_eq.mpr q)
/-- what checking leaves as it was; only nodes in S are given a meaning -/
def rf_FC (s t : sx_S) (S : List Nat) : Prop := (∀ p, cx_out [(66, 66), (72, 73), (82, 84), (93, 94), (100, 106)] p → t.1 p = s.1 p ∧ t.2.1 p = s.2.1 p) ∧ rf_f [9, 40, 41, 50, 56, 58] s t ∧ rf_xu s t ∧ rf_ag 93 94 (s.1 66 34) s t ∧ (∀ p j : Nat, 82 ≤ p → p ≤ 84 → j ∉ S → t.2.1 p j = s.2.1 p j) ∧ rf_ag 100 103 (s.1 66 50) s t ∧ (∀ o, o < s.2.2.2 → t.2.2.1 o = s.2.2.1 o) ∧ s.2.2.2 ≤ t.2.2.2
theorem rf_FC_refl (s : sx_S) (S : List Nat) : rf_FC s s S := ⟨fun _ _ => ⟨rfl, rfl⟩, rf_f_refl _ _, rf_xu_refl _, rf_ag_refl _ _ _ _, fun _ _ _ _ _ => rfl, rf_ag_refl _ _ _ _, fun _ _ => rfl, Nat.le_refl _⟩
theorem rf_FC_trans {s t u : sx_S} {S S' T : List Nat} (h2 : rf_FC t u S') (h1 : rf_FC s t S) (hS : ∀ j ∈ S, j ∈ T) (hS' : ∀ j ∈ S', j ∈ T) : rf_FC s u T := by
  obtain ⟨a1, a2, a3, a4, a5, a6, a7, a8⟩ := h1
  obtain ⟨b1, b2, b3, b4, b5, b6, b7, b8⟩ := h2
  refine ⟨fun p hp => ⟨(b1 p hp).1.trans (a1 p hp).1, (b1 p hp).2.trans (a1 p hp).2⟩, rf_f_step b2 rfl a2, rf_xu_trans b3 a3, rf_ag_trans b4 (by rw [a2 34 rfl]; exact Int.le_refl _) a4, fun p j q1 q2 q3 => (b5 p j q1 q2 (fun z => q3 (hS' j z))).trans (a5 p j q1 q2 (fun z => q3 (hS j z))), rf_ag_trans b6 (a3.2 0).1.2.2.1 a6, fun o ho => (b7 o (by omega)).trans (a7 o ho), Nat.le_trans a8 b8⟩
theorem rf_FC_sub {s t : sx_S} {S T : List Nat} (h : rf_FC s t S) (hS : ∀ j ∈ S, j ∈ T) : rf_FC s t T := rf_FC_trans h (rf_FC_refl s []) (fun _ z => absurd z List.not_mem_nil) hS
theorem rf_FC.same {s t : sx_S} {S : List Nat} (h : rf_FC s t S) (p : Nat) (hp : cx_outb [(66, 66), (72, 73), (82, 84), (93, 94), (100, 106)] p = true) : t.1 p = s.1 p ∧ t.2.1 p = s.2.1 p := h.1 p (cx_outb_ok hp)
theorem rf_FC_FB {s t : sx_S} (h : rf_FB s t) : rf_FC s t [] := by
  obtain ⟨a1, a2, a3, a4, a5, a6⟩ := h
  have e : ∀ p, cx_outb [(66, 66), (100, 106)] p = true → t.2.1 p = s.2.1 p := fun p hp => (a1 p (cx_outb_ok hp)).2
  refine ⟨fun p hp => a1 p (cx_le_ok (W := [(66, 66), (72, 73), (82, 84), (93, 94), (100, 106)]) rfl hp), rf_f_step a2 rfl (rf_f_refl _ _), a3, fun p j h1 h2 _ => ?_, fun p j h1 h2 _ => ?_, a4, a5, a6⟩
  · have hp : p = 93 ∨ p = 94 := by omega
    rcases hp with rfl | rfl
    · rw [e 93 rfl]
    · rw [e 94 rfl]
  · have hp : p = 82 ∨ p = 83 ∨ p = 84 := by omega
    rcases hp with rfl | rfl | rfl
    · rw [e 82 rfl]
    · rw [e 83 rfl]
    · rw [e 84 rfl]
theorem rf_FC_W {s t : sx_S} (hF : cx_F [(66, 66)] s t) (hf : rf_f [40, 41] s t) : rf_FC s t [] := by
  have e : t.2.2 = s.2.2 := (hF 0).2
  have a : ∀ p, cx_outb [(66, 66)] p = true → t.2.1 p = s.2.1 p := fun p hp => (hF.same p hp).2
  refine ⟨fun p hp => (hF p).1 (cx_le_ok (W := [(66, 66), (72, 73), (82, 84), (93, 94), (100, 106)]) rfl hp), rf_f_step hf rfl (rf_f_refl _ _), ⟨fun j => ?_, fun j => ?_⟩, fun p j h1 h2 _ => ?_, fun p j h1 h2 _ => ?_, fun p j h1 h2 _ => ?_, fun _ _ => by rw [e], by rw [e]; exact Nat.le_refl _⟩
  · rw [hf 9 rfl, a 72 rfl, a 73 rfl]
    exact ⟨Int.le_refl _, fun _ => ⟨rfl, rfl⟩⟩
  · rw [hf 58 rfl, hf 56 rfl, hf 50 rfl, hf 42 rfl, hf 45 rfl, a 106 rfl, a 105 rfl, a 104 rfl, a 96 rfl, a 123 rfl]
    exact ⟨⟨Int.le_refl _, Int.le_refl _, Int.le_refl _, rfl, rfl⟩, fun _ => rfl, fun _ => rfl, fun _ => rfl, rfl, rfl⟩
  · rw [a p (cx_outb_66 (by omega))]
  · rw [a p (cx_outb_66 (by omega))]
  · rw [a p (cx_outb_66 (by omega))]
theorem rf_ym_C {s t : sx_S} {S : List Nat} (h : rf_FC s t S) {n : rf_N} {i : Int} (hd : ∀ j ∈ rf_idx n, j ∉ S) (g : rf_ym s n i) : rf_ym t n i := by
  refine rf_nd_mono (Int.le_of_eq (h.2.1 12 rfl).symm) (fun j hj => ⟨?_, h.2.2.2.2.1 82 j (by omega) (by omega) (hd j hj), by rw [(h.same 80 rfl).2], by rw [(h.same 81 rfl).2]⟩) g
  unfold rf_rk
  rw [(h.same 74 rfl).2, h.2.2.2.2.1 83 j (by omega) (by omega) (hd j hj)]
theorem rf_Rt_C {s t : sx_S} {S : List Nat} (h : rf_FC s t S) {n : rf_N} (hd : ∀ j ∈ rf_idx n, j ∉ S) : (∀ x, (rf_gt (rf_RH s) (rf_RP s) n).1 x → (rf_gt (rf_RH t) (rf_RP t) n).1 x) ∧ (∀ x y, (rf_gt (rf_RH s) (rf_RP s) n).2 x y → (rf_gt (rf_RH t) (rf_RP t) n).2 x y) := rf_Rt_up h.2.2.1 (fun j hj => h.2.2.2.2.1 84 j (by omega) (by omega) (hd j hj))
theorem rf_CB_trans {s t u : sx_S} {a b c : Nat} (h2 : rf_CB t u b) (h1 : rf_CB s t a) (hc : a + b ≤ c) : rf_CB s u c := by
  obtain ⟨a1, a2, a3, a4⟩ := h1
  obtain ⟨b1, b2, b3, b4⟩ := h2
  exact ⟨by omega, by omega, by omega, by omega⟩
theorem rf_CB_same {s t u : sx_S} {c : Nat} (h1 : rf_CB s t c) (h50 : u.1 66 50 = t.1 66 50) (h56 : u.1 66 56 = t.1 66 56) (h58 : u.1 66 58 = t.1 66 58) (ho : u.2.2 = t.2.2) : rf_CB s u c := by
  unfold rf_CB
  rw [h50, h56, h58, ho]
  exact h1
theorem rf_RB_CB {s t : sx_S} {a b c : Nat} (h : rf_RB s c) (h1 : rf_CB s t a) (hc : a + b ≤ c) : rf_RB t b := by
  obtain ⟨a1, a2, a3, a4⟩ := h1
  obtain ⟨b1, b2, b3, b4⟩ := h
  exact ⟨by omega, by omega, by omega, by omega⟩
theorem w_distinct {CALL : sx_Ca} {sL : Nat} {sx : Nat → Int32} {Q : Nat → sx_L → sx_S → Prop} {R : Int → sx_S → Prop} {s : sx_S} {r : Int} (hI : cx_I s) (q : 0 ≤ r ∧ r ≤ 599) (hQ : ∀ u : Int, u = s.2.1 80 r.toNat → Q 7 [(0, .inr (.inl 66)), (1, .inl r), (2, .inl u)] s) : sx_wp true sL sx eX12_distinct CALL [(7, [0, 1, 2]), (47, [0, 1, 2, 3, 4])] Q R 400 0 (sx_argsF 0 [.inr (.inl 66), .inl r]) [] s := by
  repeat' (first | (with_reducible intro _) | (refine And.intro ?_ ?_) | (refine hQ _ ?_))
  all_goals (try dsimp only)
  all_goals (first | trivial | assumption | omega | (dsimp only at *; omega) | (subst_vars; assumption) | (subst_vars; omega) | (simp only [sx_w_t] at *; omega) | (subst_vars; dsimp only at *; simp only [sx_w_t] at *; omega) | (constructor <;> omega) | (refine cx_I_ua rfl rfl hI ?_ ?_ <;> omega) | skip)
theorem w_distinct_7 {CALL : sx_Ca} {sL : Nat} {sx : Nat → Int32} {Q : Nat → sx_L → sx_S → Prop} {R : Int → sx_S → Prop} (h_wrong : ∀ (a0 a1 : Int) (s : sx_S) (K : Int → sx_S → Prop), cx_I s → (1 ≤ a0 ∧ a0 ≤ 6) → (0 ≤ a1 ∧ a1 ≤ 241) → (∀ (z : Int) (t : sx_S), cx_I t → cx_F [(66, 66)] s t → (rf_f [40, 41] s t) → (t.1 66 40 ≠ 0) → ((s.1 66 40 ≠ 0 ∧ t.1 66 40 = s.1 66 40 ∧ t.1 66 41 = s.1 66 41) ∨ (s.1 66 40 = 0 ∧ t.1 66 40 = a0 ∧ t.1 66 41 = a1)) → K z t) → CALL 165 [.inr (.inl 66), .inl a0, .inl a1] s K) {s : sx_S} {r x2 : Int} {PB : Int → sx_S → Prop} {PV : Int → sx_S → Int → Prop} (q : 0 ≤ r ∧ r ≤ 599) (q2 : -1 ≤ x2 ∧ x2 ≤ 599) (hE : x2 = -1 → R 0 s) (hB : x2 ≠ -1 → ∀ K : Int → sx_S → Prop, (∀ z t, PB z t → K z t) → CALL 182 [.inr (.inl 66), .inl x2] s K) (hV : ∀ z t, PB z t → ∀ K : Int → sx_S → Prop, (∀ w, PV z t w → K w t) → CALL 183 [.inr (.inl 66), .inl z] t K) (hIB : ∀ z t, PB z t → cx_I t) (hVr : ∀ z t w, PV z t w → -2147483648 ≤ w ∧ w ≤ 2147483647) (hW : ∀ z t, PB z t → PV z t (-1) → ∀ t', cx_I t' → cx_F [(66, 66)] t t' → rf_f [40, 41] t t' → t'.1 66 40 ≠ 0 → ((t.1 66 40 ≠ 0 ∧ t'.1 66 40 = t.1 66 40 ∧ t'.1 66 41 = t.1 66 41) ∨ (t.1 66 40 = 0 ∧ t'.1 66 40 = 5 ∧ t'.1 66 41 = t.2.1 75 r.toNat)) → R 0 t') (hQ : ∀ z t w, PB z t → PV z t w → w ≠ -1 → ∀ u : Int, u = t.2.1 80 r.toNat → Q 47 [(0, .inr (.inl 66)), (1, .inl r), (2, .inl x2), (3, .inl w), (4, .inl u)] t) : sx_wp true sL sx eX12_distinct CALL [(7, [0, 1, 2]), (47, [0, 1, 2, 3, 4])] Q R 400 7 [(0, .inr (.inl 66)), (1, .inl r), (2, .inl x2)] [] s := by
  repeat' (first | (with_reducible intro _) | (refine And.intro ?_ ?_) | (refine hE ?_) | (refine hQ _ _ _ (by assumption) (by assumption) ?_ _ ?_) | (refine hB ?_ _ ?_) | (refine hV _ _ (by assumption) _ ?_) | (refine h_wrong _ _ _ _ ?_ ?_ ?_ ?_) | (refine hW _ _ (by assumption) (by subst_vars; assumption) _ (by assumption) (by assumption) (by assumption) (by assumption) ?_))
  all_goals (try dsimp only)
  all_goals (first | trivial | assumption | omega | (exact hIB _ _ (by assumption)) | (exact (hVr _ _ _ (by assumption)).1) | (exact (hVr _ _ _ (by assumption)).2) | (dsimp only at *; omega) | skip)
