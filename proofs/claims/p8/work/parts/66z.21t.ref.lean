section
/-! ===== the reference: build, piece by piece ===== -/
theorem cx_I_own {s : sx_S} {X : (Nat → Nat → Int) × Nat} (h : cx_I s) : cx_I (s.1, s.2.1, X) := cx_I.mk (fun p k hp => h 0 p k hp) (fun p j hp => h 1 p j hp) h.ar
theorem w_build {CALL : sx_Ca} {sL : Nat} {sx : Nat → Int32} {Q : Nat → sx_L → sx_S → Prop} {R : Int → sx_S → Prop} (h_make : ∀ (a0 a1 : Int) (s : sx_S) (K : Int → sx_S → Prop), cx_I s → (0 ≤ a0 ∧ a0 ≤ 3) → (-2147483648 ≤ a1 ∧ a1 ≤ 2147483647) → (s.1 66 50 ≤ 59999) → (∀ (z : Int) (t : sx_S), cx_I t → cx_F [(66, 66), (100, 103)] s t → (z = s.1 66 50) → (t.1 66 50 = s.1 66 50 + 1) → (rf_f [50] s t) → (rf_ag 100 103 (s.1 66 50) s t) → (rf_mk t z a0 a1) → K z t) → CALL 178 [.inr (.inl 66), .inl a0, .inl a1] s K) {s : sx_S} {r : Int} {PB : Int → sx_S → Int → sx_S → Prop} (hI : cx_I s) (q : 0 ≤ r ∧ r ≤ 599) (h50 : s.1 66 50 ≤ 59999) (hown : s.2.2.2 < 500000) (h74 : s.2.1 74 r.toNat ≠ 0 → s.2.1 74 r.toNat ≠ 0) (hB : s.2.1 74 r.toNat = 0 → ∀ (z1 v1 : Int) (t1 : sx_S), v1 = s.2.1 82 r.toNat → cx_I t1 → cx_F [(66, 66), (100, 103)] s t1 → z1 = s.1 66 50 → t1.1 66 50 = s.1 66 50 + 1 → rf_f [50] s t1 → rf_ag 100 103 (s.1 66 50) s t1 → rf_mk t1 z1 0 v1 → ∀ u : Int, u = t1.2.1 80 r.toNat → ∀ K : Int → sx_S → Prop, (∀ z t, PB z1 t1 z t → K z t) → CALL 182 [.inr (.inl 66), .inl u] t1 K) (hz : ∀ z1 t1 z t, PB z1 t1 z t → 0 ≤ z1 ∧ z1 ≤ 59999) (hK : ∀ z1 t1 z t, PB z1 t1 z t → R z1 (t.1, sx_ua t.2.1 102 z1.toNat z, t.2.2)) (hQ98 : s.2.1 74 r.toNat ≠ 0 → s.2.1 83 r.toNat ≠ 3 → ∀ o : Nat, o = s.2.2.2 → Q 98 [(0, .inr (.inl 66)), (1, .inl r), (2, .inr (.inr o)), (3, .inl 0)] (s.1, s.2.1, (fun o j => cond (Nat.beq o s.2.2.2) 0 (s.2.2.1 o j)), s.2.2.2 + 1)) (hQ64 : s.2.1 74 r.toNat ≠ 0 → s.2.1 83 r.toNat = 3 → ∀ (o : Nat) (u : Int), o = s.2.2.2 → u = s.2.1 80 r.toNat → Q 64 [(0, .inr (.inl 66)), (1, .inl r), (2, .inr (.inr o)), (3, .inl 0), (4, .inl u)] (s.1, s.2.1, (fun o j => cond (Nat.beq o s.2.2.2) 0 (s.2.2.1 o j)), s.2.2.2 + 1)) : sx_wp true sL sx eX12_build CALL [(64, [0, 1, 2, 3, 4]), (98, [0, 1, 2, 3]), (140, [0, 1, 2, 3, 4, 5]), (186, [0, 1, 4, 5]), (216, [0, 1, 4])] Q R 400 0 (sx_argsF 0 [.inr (.inl 66), .inl r]) [] s := by
  repeat' (first | (with_reducible intro _) | (refine And.intro ?_ ?_) | (refine hK _ _ _ _ (by assumption)) | (refine hQ98 ?_ ?_ _ ?_) | (refine hQ64 ?_ ?_ _ _ ?_ ?_) | (refine hB (by first | omega | (dsimp only at *; omega) | (subst_vars; omega)) _ _ _ (by assumption) (by assumption) (by assumption) (by assumption) (by assumption) (by assumption) (by assumption) (by assumption) _ (by assumption) _ ?_) | (refine h_make _ _ _ _ ?_ ?_ ?_ ?_ ?_))
  all_goals (try dsimp only)
  all_goals (first | trivial | assumption | omega | (dsimp only at *; omega) | (have hzz := hz _ _ _ _ (by assumption); dsimp only at *; omega) | skip)
theorem w_build_64 {CALL : sx_Ca} {sL : Nat} {sx : Nat → Int32} {Q : Nat → sx_L → sx_S → Prop} {R : Int → sx_S → Prop} {s : sx_S} {r x3 x4 : Int} {o : Nat} {PB : Int → sx_S → Prop} {PV : Int → sx_S → Int → Prop} (q3 : 0 ≤ x3 ∧ x3 ≤ 7) (q4 : -1 ≤ x4 ∧ x4 ≤ 599) (hE : x4 = -1 → Q 98 [(0, .inr (.inl 66)), (1, .inl r), (2, .inr (.inr o)), (3, .inl x3)] s) (hB : x4 ≠ -1 → ∀ K : Int → sx_S → Prop, (∀ z t, PB z t → K z t) → CALL 182 [.inr (.inl 66), .inl x4] s K) (hV : ∀ z t, PB z t → ∀ K : Int → sx_S → Prop, (∀ w, PV z t w → K w t) → CALL 183 [.inr (.inl 66), .inl z] t K) (ho : ∀ z t, PB z t → o < t.2.2.2 ∧ cx_I t) (hQ : ∀ z t w, PB z t → PV z t w → ∀ y3 y4 : Int, y3 = x3 + 1 → y4 = t.2.1 81 x4.toNat → Q 64 [(0, .inr (.inl 66)), (1, .inl r), (2, .inr (.inr o)), (3, .inl y3), (4, .inl y4)] (t.1, t.2.1, (fun o' => if o' = o then (fun j' => if j' = x3.toNat then w else t.2.2.1 o j') else t.2.2.1 o'), t.2.2.2)) : sx_wp true sL sx eX12_build CALL [(64, [0, 1, 2, 3, 4]), (98, [0, 1, 2, 3]), (140, [0, 1, 2, 3, 4, 5]), (186, [0, 1, 4, 5]), (216, [0, 1, 4])] Q R 400 64 [(0, .inr (.inl 66)), (1, .inl r), (2, .inr (.inr o)), (3, .inl x3), (4, .inl x4)] [] s := by
  repeat' (first | (with_reducible intro _) | (refine And.intro ?_ ?_) | (refine hE ?_) | (refine hQ _ _ _ (by assumption) (by assumption) _ _ ?_ ?_) | (refine hB ?_ _ ?_) | (refine hV _ _ (by assumption) _ ?_))
  all_goals (try dsimp only)
  all_goals (first | trivial | assumption | omega | (exact (ho _ _ (by assumption)).1) | (exact cx_I_own (ho _ _ (by assumption)).2) | (dsimp only at *; omega) | (simp only [sx_w_t] at *; omega) | skip)
theorem w_build_98 {CALL : sx_Ca} {sL : Nat} {sx : Nat → Int32} {Q : Nat → sx_L → sx_S → Prop} {R : Int → sx_S → Prop} (h_make : ∀ (a0 a1 : Int) (s : sx_S) (K : Int → sx_S → Prop), cx_I s → (0 ≤ a0 ∧ a0 ≤ 3) → (-2147483648 ≤ a1 ∧ a1 ≤ 2147483647) → (s.1 66 50 ≤ 59999) → (∀ (z : Int) (t : sx_S), cx_I t → cx_F [(66, 66), (100, 103)] s t → (z = s.1 66 50) → (t.1 66 50 = s.1 66 50 + 1) → (rf_f [50] s t) → (rf_ag 100 103 (s.1 66 50) s t) → (rf_mk t z a0 a1) → K z t) → CALL 178 [.inr (.inl 66), .inl a0, .inl a1] s K) {s : sx_S} {r x3 : Int} {o : Nat} (hI : cx_I s) (q : 0 ≤ r ∧ r ≤ 599) (h50 : s.1 66 50 ≤ 59999) (hQ140 : ∀ (z1 c1 v1 w : Int) (t1 : sx_S), c1 = s.2.1 83 r.toNat → v1 = s.2.1 82 r.toNat → cx_I t1 → cx_F [(66, 66), (100, 103)] s t1 → z1 = s.1 66 50 → t1.1 66 50 = s.1 66 50 + 1 → rf_f [50] s t1 → rf_ag 100 103 (s.1 66 50) s t1 → rf_mk t1 z1 c1 v1 → t1.2.1 83 r.toNat = 3 → w = t1.1 66 56 → Q 140 [(0, .inr (.inl 66)), (1, .inl r), (2, .inr (.inr o)), (3, .inl x3), (4, .inl z1), (5, .inl 0)] (t1.1, sx_ua t1.2.1 104 z1.toNat w, t1.2.2)) (hQ186 : ∀ (z1 c1 v1 u : Int) (t1 : sx_S), c1 = s.2.1 83 r.toNat → v1 = s.2.1 82 r.toNat → cx_I t1 → cx_F [(66, 66), (100, 103)] s t1 → z1 = s.1 66 50 → t1.1 66 50 = s.1 66 50 + 1 → rf_f [50] s t1 → rf_ag 100 103 (s.1 66 50) s t1 → rf_mk t1 z1 c1 v1 → t1.2.1 83 r.toNat ≠ 3 → u = t1.2.1 80 r.toNat → Q 186 [(0, .inr (.inl 66)), (1, .inl r), (4, .inl z1), (5, .inl u)] t1) : sx_wp true sL sx eX12_build CALL [(64, [0, 1, 2, 3, 4]), (98, [0, 1, 2, 3]), (140, [0, 1, 2, 3, 4, 5]), (186, [0, 1, 4, 5]), (216, [0, 1, 4])] Q R 400 98 [(0, .inr (.inl 66)), (1, .inl r), (2, .inr (.inr o)), (3, .inl x3)] [] s := by
  have h83 := hI.arr 83 (by decide) rfl r.toNat
  have h50' := hI.fld 66 50 (by decide) rfl
  repeat' (first | (with_reducible intro _) | (refine And.intro ?_ ?_) | (refine hQ140 _ _ _ _ _ (by assumption) (by assumption) (by assumption) (by assumption) (by assumption) (by assumption) (by assumption) (by assumption) (by assumption) ?_ ?_) | (refine hQ186 _ _ _ _ _ (by assumption) (by assumption) (by assumption) (by assumption) (by assumption) (by assumption) (by assumption) (by assumption) (by assumption) ?_ ?_) | (refine h_make _ _ _ _ ?_ ?_ ?_ ?_ ?_))
  all_goals (try dsimp only)
  all_goals (first | trivial | assumption | omega | (dsimp only at *; omega) | (subst_vars; assumption) | (subst_vars; omega) | (simp only [sx_w_t] at *; omega) | (subst_vars; dsimp only at *; simp only [sx_w_t] at *; omega) | (constructor <;> omega) | (exact hIA _ _ (by assumption)) | (refine cx_I_ua rfl rfl hI ?_ ?_ <;> omega) | skip)
theorem w_build_140 {CALL : sx_Ca} {sL : Nat} {sx : Nat → Int32} {Q : Nat → sx_L → sx_S → Prop} {R : Int → sx_S → Prop} {s : sx_S} {r x3 x4 x5 : Int} {o : Nat} (hI : cx_I s) (ho : o < s.2.2.2) (hv : x5 < x3 → -2147483648 ≤ s.2.2.1 o x5.toNat ∧ s.2.2.1 o x5.toNat ≤ 2147483647) (q3 : 0 ≤ x3 ∧ x3 ≤ 7) (q5 : 0 ≤ x5 ∧ x5 ≤ x3) (h56 : s.1 66 56 ≤ 119990) (hE : x3 ≤ x5 → Q 216 [(0, .inr (.inl 66)), (1, .inl r), (4, .inl x4)] s) (hQ : x5 < x3 → ∀ w n v y5 : Int, w = s.1 66 56 + 1 → n = s.1 66 56 → v = s.2.2.1 o x5.toNat → y5 = x5 + 1 → Q 140 [(0, .inr (.inl 66)), (1, .inl r), (2, .inr (.inr o)), (3, .inl x3), (4, .inl x4), (5, .inl y5)] (sx_uf s.1 66 56 w, sx_ua s.2.1 105 n.toNat v, s.2.2)) : sx_wp true sL sx eX12_build CALL [(64, [0, 1, 2, 3, 4]), (98, [0, 1, 2, 3]), (140, [0, 1, 2, 3, 4, 5]), (186, [0, 1, 4, 5]), (216, [0, 1, 4])] Q R 400 140 [(0, .inr (.inl 66)), (1, .inl r), (2, .inr (.inr o)), (3, .inl x3), (4, .inl x4), (5, .inl x5)] [] s := by
  have h56' := hI.fld 66 56 (by decide) rfl
  repeat' (first | (with_reducible intro _) | (refine And.intro ?_ ?_) | (refine hE ?_) | (refine hQ ?_ _ _ _ _ ?_ ?_ ?_ ?_))
  all_goals (try dsimp only)
  all_goals (first | trivial | assumption | omega | (dsimp only at *; omega) | (subst_vars; assumption) | (subst_vars; omega) | (simp only [sx_w_t] at *; omega) | (subst_vars; dsimp only at *; simp only [sx_w_t] at *; omega) | (constructor <;> omega) | (exact hIA _ _ (by assumption)) | (refine cx_I_ua rfl rfl hI ?_ ?_ <;> omega) | skip)
theorem w_build_186 {CALL : sx_Ca} {sL : Nat} {sx : Nat → Int32} {Q : Nat → sx_L → sx_S → Prop} {R : Int → sx_S → Prop} {s : sx_S} {r x4 x5 : Int} {PB PA : Int → sx_S → Prop} (hIA : ∀ z t', PA z t' → cx_I t') (q5 : -1 ≤ x5 ∧ x5 ≤ 599) (hE : x5 = -1 → Q 216 [(0, .inr (.inl 66)), (1, .inl r), (4, .inl x4)] s) (hB : x5 ≠ -1 → ∀ K : Int → sx_S → Prop, (∀ z t, PB z t → K z t) → CALL 182 [.inr (.inl 66), .inl x5] s K) (hA : ∀ z t, PB z t → ∀ K : Int → sx_S → Prop, (∀ w t', PA z t' → K w t') → CALL 179 [.inr (.inl 66), .inl x4, .inl z] t K) (hQ : ∀ z t', PA z t' → ∀ y5 : Int, y5 = t'.2.1 81 x5.toNat → Q 186 [(0, .inr (.inl 66)), (1, .inl r), (4, .inl x4), (5, .inl y5)] t') : sx_wp true sL sx eX12_build CALL [(64, [0, 1, 2, 3, 4]), (98, [0, 1, 2, 3]), (140, [0, 1, 2, 3, 4, 5]), (186, [0, 1, 4, 5]), (216, [0, 1, 4])] Q R 400 186 [(0, .inr (.inl 66)), (1, .inl r), (4, .inl x4), (5, .inl x5)] [] s := by
  repeat' (first | (with_reducible intro _) | (refine And.intro ?_ ?_) | (refine hE ?_) | (refine hQ _ _ (by assumption) _ ?_) | (refine hB ?_ _ ?_) | (refine hA _ _ (by assumption) _ ?_))
  all_goals (try dsimp only)
  all_goals (first | trivial | assumption | omega | (dsimp only at *; omega) | (subst_vars; assumption) | (subst_vars; omega) | (simp only [sx_w_t] at *; omega) | (subst_vars; dsimp only at *; simp only [sx_w_t] at *; omega) | (constructor <;> omega) | (exact hIA _ _ (by assumption)) | (refine cx_I_ua rfl rfl hI ?_ ?_ <;> omega) | skip)
theorem w_build_216 {CALL : sx_Ca} {sL : Nat} {sx : Nat → Int32} {Q : Nat → sx_L → sx_S → Prop} {R : Int → sx_S → Prop} {s : sx_S} {r x4 : Int} {PC : Int → sx_S → Prop} (hI : cx_I s) (q : 0 ≤ r ∧ r ≤ 599) (hC : ∀ u : Int, u = s.2.1 84 r.toNat → ∀ K : Int → sx_S → Prop, (∀ z t, PC z t → K z t) → CALL 180 [.inr (.inl 66), .inl x4, .inl u] s K) (hK : ∀ z t, PC z t → R z t) : sx_wp true sL sx eX12_build CALL [(64, [0, 1, 2, 3, 4]), (98, [0, 1, 2, 3]), (140, [0, 1, 2, 3, 4, 5]), (186, [0, 1, 4, 5]), (216, [0, 1, 4])] Q R 400 216 [(0, .inr (.inl 66)), (1, .inl r), (4, .inl x4)] [] s := by
  repeat' (first | (with_reducible intro _) | (refine And.intro ?_ ?_) | (refine hK _ _ (by assumption)) | (refine hC _ (by assumption) _ ?_))
  all_goals (try dsimp only)
  all_goals (first | trivial | assumption | omega | (dsimp only at *; omega) | (subst_vars; assumption) | (subst_vars; omega) | (simp only [sx_w_t] at *; omega) | (subst_vars; dsimp only at *; simp only [sx_w_t] at *; omega) | (constructor <;> omega) | (exact hIA _ _ (by assumption)) | (refine cx_I_ua rfl rfl hI ?_ ?_ <;> omega) | skip)
end
section
/-! ===== the reference: build ===== -/
/-- there is room to build so many nodes -/
def rf_RB (s : sx_S) (n : Nat) : Prop := s.1 66 50 + 10 * (n : Int) ≤ 59990 ∧ s.1 66 58 + 5 * (n : Int) ≤ 399990 ∧ s.1 66 56 + 5 * (n : Int) ≤ 119980 ∧ s.2.2.2 + n ≤ 500000
def rf_CB (s t : sx_S) (n : Nat) : Prop := t.1 66 50 ≤ s.1 66 50 + 10 * (n : Int) ∧ t.1 66 58 ≤ s.1 66 58 + 5 * (n : Int) ∧ t.1 66 56 ≤ s.1 66 56 + 5 * (n : Int) ∧ t.2.2.2 ≤ s.2.2.2 + n
def rf_CC (s u : sx_S) (a b : Nat) (e : Int) : Prop := u.1 66 50 + 10 * (b : Int) ≤ s.1 66 50 + 10 * (a : Int) + e ∧ u.1 66 58 + 5 * (b : Int) ≤ s.1 66 58 + 5 * (a : Int) ∧ u.1 66 56 + 5 * (b : Int) ≤ s.1 66 56 + 5 * (a : Int) ∧ u.2.2.2 + b ≤ s.2.2.2 + a + 1
def rf_PB (m : rf_N) (Γ : List Int) (t : sx_S) (N : rf_N) : Prop := ((∀ us v, (rf_lf2 N).1 us v ↔ (rf_lf2 m).1 us v) ∧ (rf_sc (rf_G t) N).1 Γ) ∧ (rf_wh N).1 ≤ 9 * (rf_ht m).1
theorem rf_vw_lt {s : sx_S} : ∀ {l : List Int} {x y : rf_T}, rf_vw s l x y → ∀ v ∈ l, 0 ≤ v ∧ v < s.1 66 58
  | [], _, _, _, v, hv => absurd hv List.not_mem_nil
  | w :: l, _, _, ⟨A, B, _, g2, g3⟩, v, hv => by
    rcases List.mem_cons.mp hv with rfl | hv
    · exact g2.1
    · exact rf_vw_lt g3 v hv
theorem rf_ht_0 {j : Nat} {k : Int × Int} {u : Unit} {f x : rf_N} (h : k.1 = 0) : (rf_ht (.inner j k u f x)).1 = 1 + (rf_ht f).1 := if_pos h
theorem rf_ht_n {j : Nat} {k : Int × Int} {u : Unit} {f x : rf_N} (h : k.1 ≠ 0) : (rf_ht (.inner j k u f x)).1 = 1 + (rf_ht f).2 := if_neg h
theorem rf_ht_r {j : Nat} {k : Int × Int} {u : Unit} {f x : rf_N} : (rf_ht (.inner j k u f x)).1 ≤ (rf_ht (.inner j k u f x)).2 ∧ (rf_ht x).2 ≤ (rf_ht (.inner j k u f x)).2 := ⟨Nat.le_max_left _ _, Nat.le_max_right _ _⟩
theorem rf_s1_le {f : rf_N} : rf_s1 f ≤ (rf_idx f).length := by
  cases f with
  | leaf => exact Nat.le_refl _
  | inner j k u f x =>
    rw [rf_s1_idx]
    exact Nat.le_add_right _ _
theorem rf_FB_own {s t : sx_S} {o : Nat} {X : Nat → Nat → Int} (h : rf_FB s t) (ho : s.2.2.2 ≤ o) (hX : ∀ o', o' ≠ o → X o' = t.2.2.1 o') : rf_FB s (t.1, t.2.1, X, t.2.2.2) := by
  obtain ⟨a1, a2, a3, a4, a5, a6⟩ := h
  refine ⟨a1, a2, a3, a4, fun o' h' => ?_, a6⟩
  show X o' = _
  rw [hX o' (by omega)]
  exact a5 o' h'
theorem rf_xu_102 {t : sx_S} {n : Nat} {v : Int} {Bs : (Nat → Nat → Int) × Nat} : rf_xu t (t.1, sx_ua t.2.1 102 n v, Bs) := rf_xu_arr (s := t) rfl (fun q hq => sx_ua_ne (by rcases hq with rfl | rfl | rfl | rfl | rfl | rfl | rfl <;> decide))
theorem rf_FB_102 {s t : sx_S} {p : Nat} {x v : Int} (hp : p = 102 ∨ p = 103) (h : rf_FB s t) (hx : s.1 66 50 ≤ x) (h0 : 0 ≤ x) : rf_FB s (t.1, sx_ua t.2.1 p x.toNat v, t.2.2) := by
  obtain ⟨a1, a2, a3, a4, a5, a6⟩ := h
  refine ⟨fun q hq => ⟨(a1 q hq).1, ?_⟩, a2, rf_xu_trans (rf_xu_arr (s := t) rfl (fun q hq => sx_ua_ne (by omega))) a3, rf_ag_ua (F := t.1) (A := t.2.1) (B := t.2.2) hx h0 a4, a5, a6⟩
  show sx_ua t.2.1 p x.toNat v q = _
  have hq2 := hq (100, 106) (by simp)
  rw [sx_ua_ne (by dsimp only at hq2; omega)]
  exact (a1 q hq).2
theorem rf_xu_own {t : sx_S} {X : (Nat → Nat → Int) × Nat} : rf_xu t (t.1, t.2.1, X) := rf_xu_arr (s := t) rfl (fun _ _ => rfl)
theorem rf_ym_own {t : sx_S} {X : (Nat → Nat → Int) × Nat} {n : rf_N} {i : Int} (h : rf_ym t n i) : rf_ym (t.1, t.2.1, X) n i := h
theorem rf_ym_s {s u t : sx_S} (hu : rf_FB s u) (ht : rf_FB s t) {n : rf_N} {i : Int} (g : rf_ym u n i) : rf_ym t n i := by
  have e : rf_rk t = rf_rk u := by
    funext j
    unfold rf_rk
    rw [(ht.same 74 rfl).2, (ht.same 83 rfl).2, (hu.same 74 rfl).2, (hu.same 83 rfl).2]
  unfold rf_ym at g ⊢
  rw [e, (ht.same 82 rfl).2, (ht.same 80 rfl).2, (ht.same 81 rfl).2, ht.2.1 12 rfl]
  rw [(hu.same 82 rfl).2, (hu.same 80 rfl).2, (hu.same 81 rfl).2, hu.2.1 12 rfl] at g
  exact g
theorem rf_FB_cl {s u t : sx_S} {x : Int} (h4 : s.1 66 50 ≤ x) (g2 : rf_FB s u) (p2 : cx_F [(66, 66), (100, 103), (105, 106)] u t) (p3 : rf_f [50, 56, 58] u t) (p4 : rf_xu u t) (p5 : rf_ag 100 103 x u t) : rf_FB s t := by
  obtain ⟨a1, a2, a3, a4, a5, a6⟩ := g2
  have e : t.2.2 = u.2.2 := (p2 0).2
  refine ⟨fun p hp => ?_, rf_f_step p3 rfl a2, rf_xu_trans p4 a3, rf_ag_trans p5 h4 a4, fun o ho => by rw [e]; exact a5 o ho, by rw [e]; exact a6⟩
  have := (p2 p).1 (cx_le_ok (W := [(66, 66), (100, 106)]) rfl hp)
  exact ⟨this.1.trans (a1 p hp).1, this.2.trans (a1 p hp).2⟩
theorem rf_ol_f {s : sx_S} {F A : Nat → Nat → Int} {o n : Nat} : rf_ol (F, A, s.2.2) o n = rf_ol s o n := rf_ol_eq (fun _ _ => rfl)
theorem rf_ol_mem {s : sx_S} {o i : Nat} : ∀ {n : Nat}, i < n → s.2.2.1 o i ∈ rf_ol s o n
  | 0, h => absurd h (Nat.not_lt_zero _)
  | n + 1, h => by
    by_cases e : i = n
    · rw [e]
      exact List.mem_append_right _ List.mem_cons_self
    · exact List.mem_append_left _ (rf_ol_mem (by omega))
theorem rf_FB_104 {s t : sx_S} {x v : Int} (h : rf_FB s t) (hx : s.1 66 50 ≤ x) (h0 : 0 ≤ x) : rf_FB s (t.1, sx_ua t.2.1 104 x.toNat v, t.2.2) := by
  obtain ⟨a1, a2, a3, a4, a5, a6⟩ := h
  have e : ∀ q, q ≠ 104 → sx_ua t.2.1 104 x.toNat v q = t.2.1 q := fun q hq => sx_ua_ne hq
  refine ⟨fun q hq => ⟨(a1 q hq).1, ?_⟩, a2, ⟨fun j => ?_, fun j => ?_⟩, rf_ag_uo rfl (F := t.1) (A := t.2.1) (B := t.2.2) a4, a5, a6⟩
  · have hq2 := hq (100, 106) (by simp)
    dsimp only
    rw [e q (by dsimp only at hq2; omega)]
    exact (a1 q hq).2
  · dsimp only
    rw [e 72 (by decide), e 73 (by decide)]
    exact a3.1 j
  · dsimp only
    rw [e 106 (by decide), e 105 (by decide), e 96 (by decide), e 123 (by decide), sx_ua_same]
    obtain ⟨z1, z2, z3, z4, z5, z6⟩ := a3.2 j
    refine ⟨z1, z2, z3, fun hj => ?_, z5, z6⟩
    dsimp only
    rw [if_neg (by omega)]
    exact z4 hj
theorem rf_FB_var {s : sx_S} {w n v : Int} (hw : w = s.1 66 56 + 1) (hn : n = s.1 66 56) (h0 : 0 ≤ n) : rf_FB s (sx_uf s.1 66 56 w, sx_ua s.2.1 105 n.toNat v, s.2.2) := by
  refine ⟨fun q hq => ⟨?_, ?_⟩, rf_f_uf rfl (rf_f_ua (F := s.1) (A := s.2.1) (B := s.2.2) (rf_f_refl _ _)), rf_xu_var hw hn h0, rf_ag_uf (rf_ag_uo rfl (F := s.1) (A := s.2.1) (B := s.2.2) (rf_ag_refl _ _ _ _)), fun _ _ => rfl, Nat.le_refl _⟩
  · have hq1 := hq (66, 66) (by simp)
    show sx_uf s.1 66 56 w q = _
    rw [sx_fv_ne (by dsimp only at hq1; omega)]
  · have hq2 := hq (100, 106) (by simp)
    dsimp only
    rw [sx_ua_ne (by dsimp only at hq2; omega)]
theorem rf_bd_ok {sL : Nat} {sx : Nat → Int32} (hsL : sL ≤ 3072) {Z d : Nat} (hZ : Z ≤ 1000) (hd : 9 * Z + 20 ≤ d) (ih : ∀ (m : rf_N) (x : rf_T) (Γ : List Int) (r : Int) (s : sx_S) (K : Int → sx_S → Prop), cx_I s → rf_ym s m r → (rf_ht m).1 ≤ Z → (rf_gt (rf_RH s) (rf_RP s) m).1 x → (rf_gd m).1 → (rf_sc rf_G1 m).1 Γ → (2 ≤ s.1 66 9 ∧ s.1 66 9 ≤ 6000) → rf_RB s (rf_s1 m) → (∀ (z : Int) (t : sx_S), cx_I t → rf_FB s t → rf_CB s t (rf_s1 m) → rf_made (s.1 66 50) x t z (rf_PB m Γ t) → K z t) → sx_C sL sx (d + 1) 182 [.inr (.inl 66), .inl r] s K) : ∀ (m : rf_N) (x : rf_T) (Γ : List Int) (r : Int) (s : sx_S) (K : Int → sx_S → Prop), cx_I s → rf_ym s m r → (rf_ht m).1 ≤ (Z + 1) → (rf_gt (rf_RH s) (rf_RP s) m).1 x → (rf_gd m).1 → (rf_sc rf_G1 m).1 Γ → (2 ≤ s.1 66 9 ∧ s.1 66 9 ≤ 6000) → rf_RB s (rf_s1 m) → (∀ (z : Int) (t : sx_S), cx_I t → rf_FB s t → rf_CB s t (rf_s1 m) → rf_made (s.1 66 50) x t z (rf_PB m Γ t) → K z t) → sx_C sL sx (d + 2) 182 [.inr (.inl 66), .inl r] s K := by
  intro m x Γ r s K hI hm hh hx hg hsc h9 hRB hK
  cases m with
  | leaf => exact hx.elim
  | inner j k uu f y =>
  have r12 := hI.fld 66 12 (by decide) rfl
  have r50 := hI.fld 66 50 (by decide) rfl
  have r56 := hI.fld 66 56 (by decide) rfl
  have r58 := hI.fld 66 58 (by decide) rfl
  obtain ⟨⟨m0, m1⟩, ⟨m2, m3⟩, m4, m5⟩ := hm
  have ej : r.toNat = j := by omega
  have hs1 : rf_s1 (.inner j k uu f y) = 1 + (rf_idx f).length := rfl
  rw [hs1] at hRB
  obtain ⟨b1, b2, b3, b4⟩ := hRB
  have hvs : ∃ vs, k.1 = 3 → ((rf_lf2 f).2 vs ∧ vs.Nodup) := by
    rcases hg with ⟨q, _⟩ | ⟨_, _, q⟩
    · exact ⟨[], fun z => by omega⟩
    · by_cases h3 : k.1 = 3
      · obtain ⟨vs, q1, q2⟩ := q h3
        exact ⟨vs, fun _ => ⟨q1, q2⟩⟩
      · exact ⟨[], fun z => absurd z h3⟩
  obtain ⟨vs, hvs⟩ := hvs
  have hU : ∃ U, k.1 ≠ 0 → (rf_RH s j k.1 k.2 U ∧ (rf_gt (rf_RH s) (rf_RP s) f).2 U x ∧ rf_RP s j x) := by
    rcases hx with ⟨q, _⟩ | ⟨_, U, q1, q2, q3⟩
    · exact ⟨.leaf, fun z => absurd q z⟩
    · exact ⟨U, fun _ => ⟨q1, q2, q3⟩⟩
  obtain ⟨U, hU⟩ := hU
  refine sx_methL (wr := true) (n := 400) (n' := 400) (stop := [(64, [0, 1, 2, 3, 4]), (98, [0, 1, 2, 3]), (140, [0, 1, 2, 3, 4, 5]), (186, [0, 1, 4, 5]), (216, [0, 1, 4])]) (fun n pc ls u => (pc = 64 ∧ ∃ (o : Nat) (x3 x4 : Int) (g : rf_N) (vd rest : List Int) (w : rf_T), ls = [(0, .inr (.inl 66)), (1, .inl r), (2, .inr (.inr o)), (3, .inl x3), (4, .inl x4)] ∧ ((cx_I u ∧ rf_FB s u) ∧ o = s.2.2.2 ∧ o < u.2.2.2) ∧ (k.1 ≠ 0 ∧ k.1 = s.2.1 83 r.toNat) ∧ k.1 = 3 ∧ rf_ym u g x4 ∧ vs = vd ++ rest ∧ x3 = (vd.length : Int) ∧ ((rf_lf2 g).2 rest ∧ (rf_gt (rf_RH s) (rf_RP s) g).2 w x ∧ (rf_sc rf_G1 g).2 Γ ∧ (rf_gd g).2 ∧ (rf_ht g).2 ≤ Z) ∧ (rf_vw u vd U w ∧ rf_ol u o vd.length = vd) ∧ rf_CC s u (rf_idx f).length (rf_idx g).length 0 ∧ n = rf_len f + rf_len g + 200) ∨ (pc = 98 ∧ ∃ (o : Nat) (x3 : Int), ls = [(0, .inr (.inl 66)), (1, .inl r), (2, .inr (.inr o)), (3, .inl x3)] ∧ ((cx_I u ∧ rf_FB s u) ∧ o = s.2.2.2 ∧ o < u.2.2.2) ∧ (k.1 ≠ 0 ∧ k.1 = s.2.1 83 r.toNat) ∧ (k.1 ≠ 3 → rf_CC s u 0 0 0) ∧ (k.1 = 3 → rf_CC s u (rf_idx f).length 0 0 ∧ x3 = (vs.length : Int) ∧ rf_ol u o vs.length = vs ∧ rf_vw u vs U x) ∧ n = rf_len f + 100) ∨ (pc = 140 ∧ ∃ (o : Nat) (x3 x4 x5 : Int), ls = [(0, .inr (.inl 66)), (1, .inl r), (2, .inr (.inr o)), (3, .inl x3), (4, .inl x4), (5, .inl x5)] ∧ ((cx_I u ∧ rf_FB s u) ∧ o < u.2.2.2) ∧ k.1 = 3 ∧ (s.1 66 50 ≤ x4 ∧ x4 + 1 = u.1 66 50) ∧ rf_mk u x4 3 k.2 ∧ (0 ≤ u.2.1 104 x4.toNat ∧ u.2.1 104 x4.toNat + x5 = u.1 66 56) ∧ (rf_rl u (u.2.1 104 x4.toNat) x5.toNat = rf_ol u o x5.toNat ∧ x3 = (vs.length : Int) ∧ rf_ol u o vs.length = vs ∧ rf_vw u vs U x) ∧ (0 ≤ x5 ∧ x5 ≤ x3) ∧ (u.1 66 50 ≤ s.1 66 50 + 10 * ((rf_idx f).length : Int) + 1 ∧ u.1 66 58 ≤ s.1 66 58 + 5 * ((rf_idx f).length : Int) ∧ u.1 66 56 ≤ s.1 66 56 + 5 * ((rf_idx f).length : Int) + x5 ∧ u.2.2.2 ≤ s.2.2.2 + (rf_idx f).length + 1) ∧ n = (8 - x5).toNat + 20) ∨ (pc = 186 ∧ ∃ (x4 x5 : Int) (g fz : rf_N) (w : rf_T), ls = [(0, .inr (.inl 66)), (1, .inl r), (4, .inl x4), (5, .inl x5)] ∧ (cx_I u ∧ rf_FB s u) ∧ k.1 ≠ 0 ∧ k.1 ≠ 3 ∧ s.1 66 50 ≤ x4 ∧ (rf_no u (.inner x4.toNat k () fz .leaf) x4 ∧ (rf_idx (.inner x4.toNat k () fz .leaf)).Nodup ∧ ∀ j ∈ rf_idx (.inner x4.toNat k () fz .leaf), x4 ≤ (j : Int)) ∧ rf_ym u g x5 ∧ ((rf_gt (rf_H u) rf_P fz).2 U w ∧ (rf_gt (rf_RH s) (rf_RP s) g).2 w x) ∧ (∀ us, (rf_lf2 f).2 us ↔ ∃ a b, us = a ++ b ∧ (rf_lf2 fz).2 a ∧ (rf_lf2 g).2 b) ∧ ((rf_sc (rf_G u) fz).2 Γ ∧ (rf_sc rf_G1 g).2 Γ ∧ (rf_gd g).2) ∧ ((rf_wh fz).2 ≤ 9 * (rf_ht f).2 ∧ (rf_ht g).2 ≤ (rf_ht f).2) ∧ rf_CC s u (rf_idx f).length (rf_idx g).length 1 ∧ n = rf_len g + 1) ∨ (pc = 216 ∧ ∃ (x4 : Int) (fz : rf_N), ls = [(0, .inr (.inl 66)), (1, .inl r), (4, .inl x4)] ∧ (cx_I u ∧ rf_FB s u) ∧ k.1 ≠ 0 ∧ s.1 66 50 ≤ x4 ∧ (rf_no u (.inner x4.toNat k () fz .leaf) x4 ∧ (rf_idx (.inner x4.toNat k () fz .leaf)).Nodup ∧ ∀ j ∈ rf_idx (.inner x4.toNat k () fz .leaf), x4 ≤ (j : Int)) ∧ (((k.1 = 1 ∨ k.1 = 2) ∧ ∃ w, rf_H u x4.toNat k.1 k.2 w ∧ (rf_gt (rf_H u) rf_P fz).2 w x) ∨ (k.1 = 3 ∧ fz = .leaf ∧ rf_mp u x4.toNat k.2 x (u.1 66 56))) ∧ (k.1 ≠ 3 → ∀ us, (rf_lf2 f).2 us ↔ (rf_lf2 fz).2 us) ∧ (rf_sc (rf_G u) fz).2 Γ ∧ (k.1 = 3 → rf_rv u x4 = vs ∧ rf_vw u vs U x) ∧ (rf_wh fz).2 ≤ 9 * (rf_ht f).2 ∧ (u.1 66 50 ≤ s.1 66 50 + 10 * ((rf_idx f).length : Int) + 1 ∧ u.1 66 58 ≤ s.1 66 58 + 5 * ((rf_idx f).length : Int) ∧ u.1 66 56 + (rf_at x : Int) ≤ s.1 66 56 + 5 * ((rf_idx f).length : Int) + 5 ∧ u.2.2.2 ≤ s.2.2.2 + (rf_idx f).length + 1) ∧ n = 0)) hsL (e := eX12_build) rfl ?_ ?_
  · have hrk : s.2.1 74 r.toNat ≠ 0 → k.1 ≠ 0 ∧ k.1 = s.2.1 83 r.toNat := fun q => by
      rw [ej] at q ⊢
      unfold rf_rk at m2
      rw [if_neg q] at m2
      split at m2
      · exfalso
        have := (hU (by omega)).1.2
        omega
      · exact ⟨by omega, m2.symm⟩
    refine w_build (c_r_make hsL (d + 1) (by omega)) (PB := fun z1 t1 z t => (k.1 = 0 ∧ cx_I t1 ∧ cx_F [(66, 66), (100, 103)] s t1 ∧ z1 = s.1 66 50 ∧ t1.1 66 50 = s.1 66 50 + 1 ∧ rf_f [50] s t1 ∧ rf_ag 100 103 (s.1 66 50) s t1 ∧ rf_mk t1 z1 0 k.2) ∧ ∃ A B, x = rf_a A B ∧ rf_vt s k.2 A ∧ cx_I t ∧ rf_FB t1 t ∧ rf_CB t1 t (rf_s1 f) ∧ rf_made (t1.1 66 50) B t z (rf_PB f (k.2 :: Γ) t)) hI (by omega) (by omega) (by omega) id ?_ ?_ ?_ ?_ ?_
    · intro h74 z1 v1 t1 hv1 p1 p2 p3 p4 p5 p6 p7 u hu K' hK'
      rw [ej] at h74 hv1 hu
      rw [m3] at hv1
      have k0 : k.1 = 0 := by
        unfold rf_rk at m2
        rw [if_pos h74] at m2
        exact m2.symm
      have hFB : rf_FB s t1 := rf_FB_F p2 rfl p5 rfl (rf_xu_make p2 p5 p4) p6 (Int.le_refl _)
      rcases hx with ⟨_, A, B, q1, q2, q3⟩ | ⟨q, _⟩
      · have qvt : rf_vt s k.2 A := by
          rcases q2.2 with z | z | z | z
          · exact z.2
          · omega
          · omega
          · omega
        have hgf : (rf_gd f).1 := by
          rcases hg with ⟨_, z⟩ | ⟨z, _⟩
          · exact z
          · exact absurd k0 z
        have hsf : (rf_sc rf_G1 f).1 (k.2 :: Γ) := by
          rcases hsc with ⟨_, z⟩ | ⟨z, _⟩
          · exact z
          · exact absurd k0 z
        have hle := rf_s1_le (f := f)
        have hhf := rf_ht_0 (j := j) (u := uu) (f := f) (x := y) k0
        have e9 := p5 9 rfl
        have e56 := p5 56 rfl
        have e58 := p5 58 rfl
        have eo : t1.2.2.2 = s.2.2.2 := by rw [(p2 0).2]
        refine ih f B (k.2 :: Γ) u t1 K' p1 ?_ (by omega) ((rf_Rt_up hFB.2.2.1 (fun q _ => by rw [(hFB.same 84 rfl).2])).1 _ q3) hgf hsf (by omega) ⟨by omega, by omega, by omega, by omega⟩ (fun z t c1 c2 c3 c4 => hK' z t ⟨⟨k0, p1, p2, p3, p4, p5, p6, by rw [← hv1]; exact p7⟩, A, B, q1, qvt, c1, c2, c3, c4⟩)
        rw [hu]
        have := rf_ym_up hFB (n := f) (i := s.2.1 80 j) m4
        rw [(hFB.same 80 rfl).2]
        exact this
      · exact absurd k0 q
    · rintro z1 t1 z t ⟨⟨_, _, _, e, _⟩, _⟩
      omega
    · rintro z1 t1 z t ⟨⟨k0, p1, p2, p3, p4, p5, p6, p7⟩, A, B, q1, qvt, c1, c2, c3, ⟨N, n1, n2, n3, n4, n5, ⟨n6, n7⟩, n8⟩⟩
      have hFB : rf_FB s t1 := rf_FB_F p2 rfl p5 rfl (rf_xu_make p2 p5 p4) p6 (Int.le_refl _)
      have hF2 := rf_FB_trans c2 hFB
      obtain ⟨g1, g2, g3, g4⟩ := p7 trivial
      have hle := rf_s1_le (f := f)
      obtain ⟨d1, d2, d3, d4⟩ := c3
      have e56 := p5 56 rfl
      have e58 := p5 58 rfl
      have eo : t1.2.2.2 = s.2.2.2 := by rw [(p2 0).2]
      have ag := c2.2.2.2.1
      have hn50 := (c2.2.2.1.2 0).1.2.2.1
      have hz := rf_nd_rng n1
      have rt50 := c1.fld 66 50 (by decide) rfl
      have hxx : rf_xu t (t.1, sx_ua t.2.1 102 z1.toNat z, t.2.2) := rf_xu_102
      have hNno : rf_no (t.1, sx_ua t.2.1 102 z1.toNat z, t.2.2) N z := by
        refine rf_nd_mono (Int.le_refl _) (fun q hq => ⟨by dsimp only; rw [sx_ua_ne (by decide)], by dsimp only; rw [sx_ua_ne (by decide)], ?_, by dsimp only; rw [sx_ua_ne (by decide)]⟩) n1
        dsimp only
        rw [sx_ua_same]
        dsimp only
        have := n3 q hq
        rw [if_neg (by omega)]
      refine hK z1 _ (cx_I_ua rfl rfl (F := t.1) (A := t.2.1) (B := t.2.2) c1 (by omega) (by omega)) (rf_FB_102 (Or.inl rfl) hF2 (by omega) (by omega)) ⟨by dsimp only; rw [hs1]; push_cast; omega, by dsimp only; rw [hs1]; push_cast; omega, by dsimp only; rw [hs1]; push_cast; omega, by dsimp only; rw [hs1]; omega⟩ ⟨.inner z1.toNat (0, k.2) () N .leaf, ⟨⟨by omega, by dsimp only; omega⟩, ⟨?_, ?_⟩, ?_, ?_⟩, ?_, ?_, rfl, Or.inl ⟨rfl, A, B, q1, Or.inl ⟨rfl, rf_vt_up (rf_xu_trans hxx hF2.2.2.1) qvt⟩, (rf_gt_up hxx n1).1 _ n5⟩, ⟨fun us v => ?_, Or.inl ⟨rfl, (rf_sc_up hxx n1).1 _ n7⟩⟩, ?_⟩
      · dsimp only
        rw [sx_ua_ne (by decide), ag 100 _ (by omega) (by omega) (by omega)]
        exact g1
      · dsimp only
        rw [sx_ua_ne (by decide), ag 101 _ (by omega) (by omega) (by omega)]
        exact g2
      · have e : (sx_ua t.2.1 102 z1.toNat z) 102 z1.toNat = z := by
          rw [sx_ua_same]
          exact if_pos rfl
        show rf_nd _ _ _ _ _ N ((sx_ua t.2.1 102 z1.toNat z) 102 z1.toNat)
        rw [e]
        exact hNno
      · show (sx_ua t.2.1 102 z1.toNat z) 103 z1.toNat = -1
        rw [sx_ua_ne (by decide), ag 103 _ (by omega) (by omega) (by omega)]
        exact g4
      · show (z1.toNat :: (rf_idx N ++ [])).Nodup
        rw [List.append_nil]
        exact List.nodup_cons.mpr ⟨fun q => by have := n3 _ q; omega, n2⟩
      · intro q hq
        have hq' : q ∈ z1.toNat :: (rf_idx N ++ []) := hq
        rw [List.append_nil] at hq'
        rcases List.mem_cons.mp hq' with rfl | hq'
        · omega
        · have := n3 q hq'
          omega
      · constructor
        · rintro (⟨_, q⟩ | ⟨q, _⟩)
          · exact Or.inl ⟨k0, (n6 _ _).mp q⟩
          · exact absurd (show (0 : Int) = 2 from q) (by decide)
        · rintro (⟨_, q⟩ | ⟨q, _⟩)
          · exact Or.inl ⟨rfl, (n6 _ _).mpr q⟩
          · omega
      · rw [rf_wh_0 rfl, rf_ht_0 k0]
        omega
    · intro h74 h83 o ho
      obtain ⟨k1, k2⟩ := hrk h74
      refine ⟨_, Or.inr (Or.inl ⟨rfl, o, 0, rfl, ⟨⟨cx_I_own hI, ?_⟩, ho, by dsimp only; omega⟩, ⟨k1, k2⟩, fun _ => ⟨by dsimp only; omega, by dsimp only; omega, by dsimp only; omega, by dsimp only; omega⟩, fun z => by omega, rfl⟩)⟩
      obtain ⟨f1, f2, f3, f4, f5, f6⟩ := rf_FB_refl s
      refine ⟨f1, f2, f3, f4, fun o' h' => ?_, Nat.le_succ _⟩
      funext q
      show cond (Nat.beq o' s.2.2.2) 0 (s.2.2.1 o' q) = _
      rw [show Nat.beq o' s.2.2.2 = false from by rw [← Bool.not_eq_true]; exact fun z => by have := Nat.eq_of_beq_eq_true z; omega]
      rfl
    · intro h74 h83 o u ho hu
      obtain ⟨k1, k2⟩ := hrk h74
      have k3 : k.1 = 3 := by omega
      obtain ⟨v1, v2⟩ := hvs k3
      obtain ⟨u1, u2, u3⟩ := hU k1
      have hff : (rf_gd f).2 := by
        rcases hg with ⟨z, _⟩ | ⟨_, z, _⟩
        · omega
        · exact z
      have hsf : (rf_sc rf_G1 f).2 Γ := by
        rcases hsc with ⟨z, _⟩ | ⟨_, _, _, z⟩
        · omega
        · exact z
      have hhf := rf_ht_n (j := j) (u := uu) (f := f) (x := y) k1
      have hFB0 : rf_FB s (s.1, s.2.1, (fun o j => cond (Nat.beq o s.2.2.2) 0 (s.2.2.1 o j)), s.2.2.2 + 1) := by
        obtain ⟨f1, f2, f3, f4, f5, f6⟩ := rf_FB_refl s
        refine ⟨f1, f2, f3, f4, fun o' h' => ?_, Nat.le_succ _⟩
        funext q
        show cond (Nat.beq o' s.2.2.2) 0 (s.2.2.1 o' q) = _
        rw [show Nat.beq o' s.2.2.2 = false from by rw [← Bool.not_eq_true]; exact fun z => by have := Nat.eq_of_beq_eq_true z; omega]
        rfl
      refine ⟨_, Or.inl ⟨rfl, o, 0, u, f, [], vs, U, rfl, ⟨⟨cx_I_own hI, hFB0⟩, ho, by dsimp only; omega⟩, ⟨k1, k2⟩, k3, ?_, rfl, rfl, ⟨v1, u2, hsf, hff, by omega⟩, ⟨rfl, rfl⟩, ⟨by dsimp only; omega, by dsimp only; omega, by dsimp only; omega, by dsimp only; omega⟩, rfl⟩⟩
      rw [hu, ej]
      exact rf_ym_up hFB0 (n := f) (i := s.2.1 80 j) m4
  · have hrs : ∀ {u : sx_S} {g : rf_N} {i : Int}, cx_I u → rf_ym u g i → -1 ≤ i ∧ i ≤ 599 := fun {u} {g} {i} hu hg => by
      have h1 := rf_nd_rng hg
      have h2 := hu.fld 66 12 (by decide) rfl
      omega
    rintro n pc ls u (⟨rfl, o, x3, x4, g, vd, rest, w, rfl, ⟨⟨g1, g2⟩, ho, ho2⟩, kk, k3, hy, evs, e3, ⟨l1, l2, l3, l4, l5⟩, ⟨w1, w2⟩, ⟨c1, c2, c3, c4⟩, rfl⟩ | ⟨rfl, o, x3, rfl, ⟨⟨g1, g2⟩, ho, ho2⟩, kk, hc0, hc3, rfl⟩ | ⟨rfl, o, x3, x4, x5, rfl, ⟨⟨g1, g2⟩, ho2⟩, k3, ⟨h4, h4'⟩, hmk, ⟨f1, f2⟩, ⟨w1, w2, w3, w4⟩, h5, ⟨c1, c2, c3, c4⟩, rfl⟩ | ⟨rfl, x4, x5, g, fz, w, rfl, ⟨g1, g2⟩, k0, k3, h4, ⟨a1, a2, a3⟩, hy, ⟨t1, t2⟩, hlf, ⟨s1, s2, s3⟩, ⟨w1, w2⟩, ⟨c1, c2, c3, c4⟩, rfl⟩ | ⟨rfl, x4, fz, rfl, ⟨g1, g2⟩, k0, h4, ⟨a1, a2, a3⟩, hty, hlf, s1, hv3, w1, ⟨c1, c2, c3, c4⟩, rfl⟩)
    · have hr := hrs g1 hy
      have hU5 : rf_at U ≤ 5 := (hU kk.1).1.1
      have hlen := rf_vw_len w1
      have hwp := rf_at_pos w
      have e9 := g2.2.1 9 rfl
      cases g with
      | leaf =>
        have e4 : x4 = -1 := hy
        refine w_build_64 (PB := fun _ _ => False) (PV := fun _ _ _ => False) (by omega) hr (fun _ => ?_) (fun q => absurd e4 q) (fun _ _ q => q.elim) (fun _ _ q => q.elim) (fun _ _ _ q => q.elim)
        have er : rest = [] := l1
        subst er
        rw [List.append_nil] at evs
        have ew : w = x := l2
        have e0 : (rf_idx (.leaf : rf_N)).length = 0 := rfl
        rw [e0] at c1 c2 c3 c4
        refine ⟨_, ?_, Or.inr (Or.inl ⟨rfl, o, x3, rfl, ⟨⟨g1, g2⟩, ho, ho2⟩, kk, fun z => absurd k3 z, fun _ => ⟨⟨c1, c2, c3, c4⟩, ?_, ?_, ?_⟩, rfl⟩)⟩
        · omega
        · rw [evs]
          exact e3
        · rw [evs]
          exact w2
        · rw [evs, ← ew]
          exact w1
      | inner gj gk gu gf gx =>
        obtain ⟨v0, rest2, er, lf0, l1b⟩ := l1
        obtain ⟨A, B, ew, l2a, l2b⟩ := l2
        have hidx := rf_s1_idx (j := gj) (k := gk) (u := gu) (f := gf) (x := gx)
        have hhr := rf_ht_r (j := gj) (k := gk) (u := gu) (f := gf) (x := gx)
        have hA := rf_at_pos A
        have hB := rf_at_pos B
        have eAB : rf_at w = rf_at A + rf_at B := by
          rw [ew]
          rfl
        have hy2 := hy
        obtain ⟨⟨y0, y1⟩, ⟨y2, y3⟩, y4, y5⟩ := hy2
        refine w_build_64 (PB := fun z t => cx_I t ∧ rf_FB u t ∧ rf_CB u t (rf_s1 (.inner gj gk gu gf gx)) ∧ rf_made (u.1 66 50) A t z (rf_PB (.inner gj gk gu gf gx) Γ t)) (PV := fun z t q => q = v0 ∧ rf_vt t v0 A) (by omega) hr (fun q => ?_) (fun _ K' hK' => ?_) ?_ ?_ ?_
        · exfalso
          omega
        · exact ih (.inner gj gk gu gf gx) A Γ x4 u K' g1 hy (by omega) ((rf_Rt_up g2.2.2.1 (fun q _ => by rw [(g2.same 84 rfl).2])).1 _ l2a) l4.1 l3.1 (by omega) ⟨by omega, by omega, by omega, by omega⟩ (fun z t q1 q2 q3 q4 => hK' z t ⟨q1, q2, q3, q4⟩)
        · rintro z t ⟨q1, q2, q3, ⟨N, n1, n2, n3, n4, n5, ⟨n6, n7⟩, n8⟩⟩ K' hK'
          have hN : rf_lf N v0 := (n6 [] v0).mpr lf0
          have hv0 := rf_lf_nn hN n5
          refine c_r_varF hsL (9 * Z) (d + 1) (by omega) N A z t K' q1 (by omega) n1 n5 (by omega) (fun q z1 z2 z3 => hK' q ?_)
          have ez := z3 v0 hN
          refine ⟨ez, ?_⟩
          have := (z2 (by omega)).1.1
          rw [ez] at this
          exact this
        · rintro z t ⟨q1, q2, _⟩
          exact ⟨by have := q2.2.2.2.2.2; omega, q1⟩
        · rintro z t q ⟨q1, q2, ⟨d1, d2, d3, d4⟩, _⟩ ⟨eq, hvt⟩ z3 z4 ez3 ez4
          subst eq
          have hob : s.2.2.2 ≤ o := by omega
          have ex3 : x3.toNat = vd.length := by omega
          have hqo := q2.2.2.2.2
          refine ⟨_, ?_, Or.inl ⟨rfl, o, z3, z4, gx, vd ++ [q], rest2, B, rfl, ⟨⟨cx_I_own q1, rf_FB_own (rf_FB_trans q2 g2) hob (fun o' h' => if_neg h')⟩, ho, by dsimp only; omega⟩, kk, k3, ?_, ?_, ?_, ⟨l1b, l2b, l3.2, l4.2, by omega⟩, ⟨rf_vw_up rf_xu_own (rf_vw_snoc (B := B) hvt (rf_vw_up q2.2.2.1 ?_)), ?_⟩, ⟨by dsimp only; omega, by dsimp only; omega, by dsimp only; omega, by dsimp only; omega⟩, rfl⟩⟩
          · have : rf_len (.inner gj gk gu gf gx) = rf_len gx + 1 := rfl
            omega
          · have e81 := (q2.same 81 rfl).2
            rw [ez4, e81, show x4.toNat = gj by omega]
            exact rf_ym_own (rf_ym_up q2 (n := gx) (i := u.2.1 81 gj) y5)
          · rw [evs, er, List.append_assoc]
            rfl
          · rw [List.length_append, List.length_cons, List.length_nil]
            omega
          · rw [← ew]
            exact w1
          · rw [List.length_append, List.length_cons, List.length_nil]
            show rf_ol _ o vd.length ++ [_] = _
            have e1 : rf_ol (t.1, t.2.1, (fun o' => if o' = o then (fun j' => if j' = x3.toNat then q else t.2.2.1 o j') else t.2.2.1 o'), t.2.2.2) o vd.length = rf_ol u o vd.length := rf_ol_eq (fun i hi => by
              dsimp only
              rw [if_pos rfl]
              try dsimp only
              rw [if_neg (by omega), hqo.1 o (by omega)])
            rw [e1, w2]
            dsimp only
            rw [if_pos rfl]
            try dsimp only
            rw [if_pos ex3.symm]
    · have r50u := g1.fld 66 50 (by decide) rfl
      have e83 := (g2.same 83 rfl).2
      have e82 := (g2.same 82 rfl).2
      have e80 := (g2.same 80 rfl).2
      have hn50 := (g2.2.2.1.2 0).1.2.2.1
      have hbd : u.1 66 50 ≤ s.1 66 50 + 10 * ((rf_idx f).length : Int) := by
        by_cases q : k.1 = 3
        · have := (hc3 q).1.1
          omega
        · have := (hc0 q).1
          omega
      refine w_build_98 (c_r_make hsL (d + 1) (by omega)) g1 ⟨by omega, by omega⟩ (by omega) ?_ ?_
      · intro z1 y1 v1 w t1 hy1 hv1 p1 p2 p3 p4 p5 p6 p7 h83 hw
        have hFB1 : rf_FB u t1 := rf_FB_F p2 rfl p5 rfl (rf_xu_make p2 p5 p4) p6 (Int.le_refl _)
        have k3 : k.1 = 3 := by
          rw [(hFB1.same 83 rfl).2, e83] at h83
          omega
        obtain ⟨⟨c1, c2, c3, c4⟩, h3, w3, w4⟩ := hc3 k3
        have hFB2 := rf_FB_104 (v := w) hFB1 (show u.1 66 50 ≤ z1 by omega) (by omega)
        obtain ⟨mk1, mk2, mk3, mk4⟩ := p7 trivial
        have rt56 := p1.fld 66 56 (by decide) rfl
        have e56 := p5 56 rfl
        have e58 := p5 58 rfl
        have eo : t1.2.2 = u.2.2 := (p2 0).2
        have e104 : sx_ua t1.2.1 104 z1.toNat w 104 z1.toNat = w := by
          rw [sx_ua_same]
          exact if_pos rfl
        rw [e83] at hy1
        rw [e82, ej, m3] at hv1
        refine ⟨_, ?_, Or.inr (Or.inr (Or.inl ⟨rfl, o, x3, z1, 0, rfl, ⟨⟨cx_I_ua rfl rfl (F := t1.1) (A := t1.2.1) (B := t1.2.2) p1 (by omega) (by omega), rf_FB_trans hFB2 g2⟩, by dsimp only; rw [eo]; exact ho2⟩, k3, ⟨by omega, by dsimp only; omega⟩, fun _ => ⟨?_, ?_, ?_, ?_⟩, ⟨?_, ?_⟩, ⟨rfl, h3, ?_, rf_vw_up hFB2.2.2.1 w4⟩, by omega, ⟨by dsimp only; omega, by dsimp only; omega, by dsimp only; omega, by dsimp only; rw [eo]; omega⟩, rfl⟩))⟩
        · show (8 - 0 : Int).toNat + 20 < rf_len f + 100
          have : (8 - 0 : Int).toNat = 8 := rfl
          omega
        · dsimp only
          rw [sx_ua_ne (by decide), mk1]
          omega
        · dsimp only
          rw [sx_ua_ne (by decide), mk2]
          exact hv1
        · dsimp only
          rw [sx_ua_ne (by decide)]
          exact mk3
        · dsimp only
          rw [sx_ua_ne (by decide)]
          exact mk4
        · dsimp only
          rw [e104]
          omega
        · dsimp only
          rw [e104]
          omega
        · refine (rf_ol_eq (fun i _ => by dsimp only; rw [eo])).trans w3
      · intro z1 y1 v1 w t1 hy1 hv1 p1 p2 p3 p4 p5 p6 p7 h83 hw
        have hFB1 : rf_FB u t1 := rf_FB_F p2 rfl p5 rfl (rf_xu_make p2 p5 p4) p6 (Int.le_refl _)
        have k3 : k.1 ≠ 3 := by
          rw [(hFB1.same 83 rfl).2, e83] at h83
          omega
        obtain ⟨c1, c2, c3, c4⟩ := hc0 k3
        obtain ⟨mk1, mk2, mk3, mk4⟩ := p7 trivial
        have e56 := p5 56 rfl
        have e58 := p5 58 rfl
        have eo : t1.2.2 = u.2.2 := (p2 0).2
        rw [e83] at hy1
        rw [e82, ej, m3] at hv1
        obtain ⟨u1, u2, u3⟩ := hU kk.1
        have hff : (rf_gd f).2 := by
          rcases hg with ⟨z, _⟩ | ⟨_, z, _⟩
          · exact absurd z kk.1
          · exact z
        have hsf : (rf_sc rf_G1 f).2 Γ := by
          rcases hsc with ⟨z, _⟩ | ⟨_, _, _, z⟩
          · exact absurd z kk.1
          · exact z
        have hFs := rf_FB_trans hFB1 g2
        refine ⟨_, ?_, Or.inr (Or.inr (Or.inr (Or.inl ⟨rfl, z1, w, f, .leaf, U, rfl, ⟨p1, hFs⟩, kk.1, k3, by omega, ⟨⟨⟨by omega, by omega⟩, ⟨by rw [mk1]; omega, by rw [mk2]; exact hv1⟩, mk3, mk4⟩, by simp [rf_idx], fun q hq => by simp [rf_idx] at hq; omega⟩, ?_, ⟨rfl, u2⟩, fun us => ?_, ⟨trivial, hsf, hff⟩, ⟨Nat.zero_le _, Nat.le_refl _⟩, ⟨by omega, by omega, by omega, by rw [eo]; omega⟩, rfl⟩)))⟩
        · omega
        · rw [hw, ej, (hFs.same 80 rfl).2]
          exact rf_ym_up hFs (n := f) (i := s.2.1 80 j) m4
        · constructor
          · exact fun q => ⟨[], us, rfl, rfl, q⟩
          · rintro ⟨a, b, q1, q2, q3⟩
            have e : a = [] := q2
            rw [q1, e]
            exact q3
    · have hlen := rf_vw_len w4
      have hxp := rf_at_pos x
      obtain ⟨u1, u2, u3⟩ := hU (by omega)
      have hU5 : rf_at U ≤ 5 := u1.1
      have r58u := g1.fld 66 58 (by decide) rfl
      refine w_build_140 g1 ho2 (fun q => ?_) (by omega) h5 (by omega) (fun q => ?_) (fun q w n v y5 ew en ev ey => ?_)
      · have h1 := rf_ol_mem (s := u) (o := o) (i := x5.toNat) (n := vs.length) (by omega)
        rw [w3] at h1
        have := rf_vw_lt w4 _ h1
        omega
      · have ex : x5.toNat = vs.length := by omega
        rw [ex, w3] at w1
        obtain ⟨mk1, mk2, mk3, mk4⟩ := hmk trivial
        have hrv : rf_rv u x4 = vs := by
          unfold rf_rv
          rw [show (u.1 66 56 - u.2.1 104 x4.toNat).toNat = vs.length by omega]
          exact w1
        have hRH := rf_RH_up g2.2.2.1 u1
        have hrp := rf_vw_rp (s := u) (U := U) (i := u.2.1 104 x4.toNat) (n := vs.length) (x := x) (by rw [w1]; exact w4)
        rw [show u.2.1 104 x4.toNat + ((vs.length : Nat) : Int) = u.1 66 56 by omega] at hrp
        have hmp : rf_mp u x4.toNat k.2 x (u.1 66 56) := by
          rcases hRH.2 with z | z | z | ⟨_, z2, z3⟩
          · omega
          · omega
          · omega
          · exact ⟨U, ⟨z2, hU5, f1, Int.le_refl _⟩, z3, hrp⟩
        refine ⟨_, ?_, Or.inr (Or.inr (Or.inr (Or.inr ⟨rfl, x4, .leaf, rfl, ⟨g1, g2⟩, by omega, h4, ⟨⟨⟨by omega, by omega⟩, ⟨by rw [mk1, k3], mk2⟩, mk3, mk4⟩, by simp [rf_idx], fun q hq => by simp [rf_idx] at hq; omega⟩, Or.inr ⟨k3, rfl, hmp⟩, fun z => absurd k3 z, trivial, fun _ => ⟨hrv, w4⟩, Nat.zero_le _, ⟨c1, c2, by omega, c4⟩, rfl⟩)))⟩
        omega
      · have hFB := rf_FB_var (v := v) ew en (by omega)
        have e50 : sx_uf u.1 66 56 w 66 50 = u.1 66 50 := by
          rw [sx_uf_if]
          exact if_neg (fun c => by cases c.2)
        have e58 : sx_uf u.1 66 56 w 66 58 = u.1 66 58 := by
          rw [sx_uf_if]
          exact if_neg (fun c => by cases c.2)
        have e56 : sx_uf u.1 66 56 w 66 56 = w := by
          rw [sx_uf_if]
          exact if_pos ⟨rfl, rfl⟩
        have hv : 0 ≤ v ∧ v < u.1 66 58 := by
          have h1 := rf_ol_mem (s := u) (o := o) (i := x5.toNat) (n := vs.length) (by omega)
          rw [w3, ← ev] at h1
          exact rf_vw_lt w4 _ h1
        refine ⟨_, ?_, Or.inr (Or.inr (Or.inl ⟨rfl, o, x3, x4, y5, rfl, ⟨⟨cx_I_uf rfl rfl (cx_I_ua rfl rfl (F := u.1) (A := u.2.1) (B := u.2.2) g1 (by omega) (by omega)) (by omega) (by omega), rf_FB_trans hFB g2⟩, ho2⟩, k3, ⟨h4, by dsimp only; rw [e50]; exact h4'⟩, fun _ => ?_, ⟨?_, ?_⟩, ⟨?_, w2, ?_, rf_vw_up hFB.2.2.1 w4⟩, by omega, ⟨by dsimp only; rw [e50]; omega, by dsimp only; rw [e58]; omega, by dsimp only; rw [e56]; omega, c4⟩, rfl⟩))⟩
        · omega
        · dsimp only
          rw [sx_ua_ne (by decide), sx_ua_ne (by decide), sx_ua_ne (by decide), sx_ua_ne (by decide)]
          exact hmk trivial
        · dsimp only
          rw [sx_ua_ne (by decide)]
          exact f1
        · dsimp only
          rw [sx_ua_ne (by decide), e56]
          omega
        · dsimp only
          rw [sx_ua_ne (by decide), show y5.toNat = x5.toNat + 1 by omega]
          show rf_rl _ _ x5.toNat ++ [_] = rf_ol _ o x5.toNat ++ [_]
          rw [rf_rl_eq (s := u) (fun i hi => by
            dsimp only
            rw [sx_ua_same]
            dsimp only
            rw [if_neg (by omega)]), w1]
          dsimp only
          rw [sx_ua_same]
          dsimp only
          rw [if_pos (by omega), ev]
          exact congrArg (· ++ [u.2.2.1 o x5.toNat]) (rf_ol_f (s := u)).symm
        · exact (rf_ol_f (s := u)).trans w3
    · have hr := hrs g1 hy
      obtain ⟨u1, u2, u3⟩ := hU k0
      have hU5 : rf_at U ≤ 5 := u1.1
      have e9 := g2.2.1 9 rfl
      have hk12 : k.1 = 1 ∨ k.1 = 2 := by
        rcases u1.2 with z | z | z | z
        · exact absurd z.1 k0
        · exact Or.inl z.1
        · exact Or.inr z.1
        · exact absurd z.1 k3
      have hat := rf_gt_at u2
      have hxp := rf_at_pos x
      cases g with
      | leaf =>
        have e5 : x5 = -1 := hy
        have ew : w = x := t2
        have e0 : (rf_idx (.leaf : rf_N)).length = 0 := rfl
        rw [e0] at c1 c2 c3 c4
        refine w_build_186 (PB := fun _ _ => False) (PA := fun _ _ => False) (fun _ _ q => q.elim) hr (fun _ => ?_) (fun q => absurd e5 q) (fun _ _ q => q.elim) (fun _ _ q => q.elim)
        refine ⟨_, ?_, Or.inr (Or.inr (Or.inr (Or.inr ⟨rfl, x4, fz, rfl, ⟨g1, g2⟩, k0, h4, ⟨a1, a2, a3⟩, Or.inl ⟨hk12, U, rf_RH_H (rf_RH_up g2.2.2.1 u1) _ k3, by rw [← ew]; exact t1⟩, fun _ us => ?_, s1, fun z => absurd z k3, w1, ⟨by omega, by omega, by omega, by omega⟩, rfl⟩)))⟩
        · omega
        · rw [hlf us]
          constructor
          · rintro ⟨a, b, q1, q2, q3⟩
            have e : b = [] := q3
            rw [q1, e, List.append_nil]
            exact q2
          · exact fun q => ⟨us, [], (List.append_nil _).symm, q, rfl⟩
      | inner gj gk gu gf gx =>
        obtain ⟨A, B, ew, l2a, l2b⟩ := t2
        have hidx := rf_s1_idx (j := gj) (k := gk) (u := gu) (f := gf) (x := gx)
        have hhr := rf_ht_r (j := gj) (k := gk) (u := gu) (f := gf) (x := gx)
        have hhf := rf_ht_n (j := j) (u := uu) (f := f) (x := y) k0
        have hy2 := hy
        obtain ⟨⟨y0, y1⟩, ⟨y2, y3⟩, y4, y5⟩ := hy2
        have r50u := g1.fld 66 50 (by decide) rfl
        have hx4 := a1.1
        refine w_build_186 (PB := fun z t => cx_I t ∧ rf_FB u t ∧ rf_CB u t (rf_s1 (.inner gj gk gu gf gx)) ∧ rf_made (u.1 66 50) A t z (rf_PB (.inner gj gk gu gf gx) Γ t)) (PA := fun z t => (cx_I t ∧ rf_FB s t) ∧ rf_ym t gx (t.2.1 81 x5.toNat) ∧ ∃ fq : rf_N, (rf_no t (.inner x4.toNat k () fq .leaf) x4 ∧ (rf_idx (.inner x4.toNat k () fq .leaf)).Nodup ∧ ∀ j ∈ rf_idx (.inner x4.toNat k () fq .leaf), x4 ≤ (j : Int)) ∧ (rf_gt (rf_H t) rf_P fq).2 U B ∧ (∀ us, (rf_lf2 f).2 us ↔ ∃ a b, us = a ++ b ∧ (rf_lf2 fq).2 a ∧ (rf_lf2 gx).2 b) ∧ (rf_sc (rf_G t) fq).2 Γ ∧ (rf_wh fq).2 ≤ 9 * (rf_ht f).2 ∧ rf_CC s t (rf_idx f).length (rf_idx gx).length 1) (fun z t q => q.1.1) hr (fun q => ?_) (fun _ K' hK' => ?_) ?_ ?_
        · exfalso
          omega
        · exact ih (.inner gj gk gu gf gx) A Γ x5 u K' g1 hy (by omega) ((rf_Rt_up g2.2.2.1 (fun q _ => by rw [(g2.same 84 rfl).2])).1 _ l2a) s3.1 s2.1 (by omega) ⟨by omega, by omega, by omega, by omega⟩ (fun z t q1 q2 q3 q4 => hK' z t ⟨q1, q2, q3, q4⟩)
        · rintro z t ⟨q1, q2, ⟨d1, d2, d3, d4⟩, ⟨N, n1, n2, n3, n4, n5, ⟨n6, n7⟩, n8⟩⟩ K' hK'
          have ag := q2.2.2.2.1
          have hnn := (q2.2.2.1.2 0).1.2.2.1
          have b1' := rf_no_up ag hnn a1
          have hzr := rf_nd_rng n1
          have rt50 := q1.fld 66 50 (by decide) rfl
          have hz1 : z ≠ -1 := fun e => by
            have := rf_nd_nil n1 e
            subst this
            exact n5.elim
          have hFs := rf_FB_trans q2 g2
          have hls : ∀ i ∈ rf_idx fz, x4 ≤ (i : Int) := fun i hi => a3 i (List.mem_cons_of_mem _ (List.mem_append_left _ hi))
          have fin : ∀ t2 : sx_S, t2.1 = t.1 → t2.2.2 = t.2.2 → cx_I t2 → rf_FB s t2 → rf_xu t t2 → ((fz = .leaf ∧ t2.2.1 = sx_ua t.2.1 102 x4.toNat z) ∨ (fz ≠ .leaf ∧ t2.2.1 = sx_ua t.2.1 103 (rf_last fz 0) z)) → K' 0 t2 := by
            intro t2 e1 e2 i2 f2 xu2 hC
            obtain ⟨k1, k2, k3', k4⟩ := rf_app_tr (lo := x4) (mid := u.1 66 50) (hi := t.1 66 50) (by rw [e1]) b1' a2 (fun i hi => ⟨a3 i hi, rf_nd_lt a1 i hi⟩) n1 n2 (fun i hi => ⟨n3 i hi, rf_nd_lt n1 i hi⟩) hnn hC
            have e81 : t2.2.1 81 = s.2.1 81 := (f2.same 81 rfl).2
            obtain ⟨_, _, af, _⟩ := a1
            have haf := rf_no_up ag hnn af
            refine hK' _ _ ⟨⟨i2, f2⟩, ?_, rf_snoc fz N, ⟨k1, k2, fun i hi => (k3' i hi).1⟩, ?_, fun us => ?_, ?_, ?_, ⟨by rw [e1]; omega, by rw [e1]; omega, by rw [e1]; omega, by rw [e2]; omega⟩⟩
            · have h81 := (g2.same 81 rfl).2
              rw [e81, show x5.toNat = gj by omega, ← h81]
              exact rf_ym_s g2 f2 (n := gx) (i := u.2.1 81 gj) y5
            · refine rf_gt_snoc ((rf_gt_up (rf_xu_trans xu2 q2.2.2.1) af).2 _ _ t1) ?_
              cases N with
              | leaf => exact n5.elim
              | inner nj nk nu nf nx2 =>
                have en : nx2 = .leaf := n4
                subst en
                rw [ew]
                exact ⟨A, B, rfl, (rf_gt_up xu2 n1).1 _ n5, rfl⟩
            · rw [hlf us]
              cases N with
              | leaf => exact n5.elim
              | inner nj nk nu nf nx2 =>
                have en : nx2 = .leaf := n4
                subst en
                constructor
                · rintro ⟨a, b, h1, h2, ⟨v, b2, h3, h5, h6⟩⟩
                  exact ⟨a ++ [v], b2, by rw [h1, h3, List.append_assoc]; rfl, rf_lf2_snoc1.mpr ⟨a, v, rfl, h2, (n6 [] v).mpr h5⟩, h6⟩
                · rintro ⟨a, b, h1, h2, h3⟩
                  obtain ⟨a2', v, e3, e4, e5⟩ := rf_lf2_snoc1.mp h2
                  exact ⟨a2', v :: b, by rw [h1, e3, List.append_assoc]; rfl, e4, ⟨v, b, rfl, (n6 [] v).mp e5, h3⟩⟩
            · exact rf_sc_snoc ((rf_sc_up (rf_xu_trans xu2 q2.2.2.1) af).2 _ s1) (rf_sc_12 n4 ((rf_sc_up xu2 n1).1 _ n7))
            · rw [rf_wh_snoc]
              have hw2 : (rf_wh N).2 = (rf_wh N).1 := by
                cases N with
                | leaf => exact n5.elim
                | inner nj nk nu nf nx2 =>
                  have en : nx2 = .leaf := n4
                  subst en
                  exact Nat.max_zero _
              rw [hw2]
              omega
          refine c_r_append hsL (d + 1) (by omega) x4 z fz t K' q1 (by omega) (by omega) b1'.2.2.1 (fun hl => fin _ rfl rfl (cx_I_ua rfl rfl (F := t.1) (A := t.2.1) (B := t.2.2) q1 (by omega) (by omega)) (rf_FB_102 (Or.inl rfl) hFs h4 (by omega)) rf_xu_102 (Or.inl ⟨hl, rfl⟩)) (fun l hl el => fin _ rfl rfl (cx_I_ua rfl rfl (F := t.1) (A := t.2.1) (B := t.2.2) q1 (by omega) (by omega)) ?_ (rf_xu_arr (s := t) rfl (fun q hq => sx_ua_ne (by omega))) (Or.inr ⟨hl, by rw [el]⟩))
          have hlm := hls l (by rw [el]; exact rf_last_mem fz 0 hl)
          exact rf_FB_102 (x := (l : Int)) (Or.inr rfl) hFs (by omega) (by omega)
        · rintro z t2 ⟨⟨i2, f2⟩, y6, fq, k1, k2, k3', k4, k5, k6⟩ y7 ey7
          refine ⟨_, ?_, Or.inr (Or.inr (Or.inr (Or.inl ⟨rfl, x4, y7, gx, fq, B, rfl, ⟨i2, f2⟩, k0, k3, h4, k1, by rw [ey7]; exact y6, ⟨k2, l2b⟩, k3', ⟨k4, s2.2, s3.2⟩, ⟨k5, by omega⟩, k6, rfl⟩)))⟩
          have : rf_len (.inner gj gk gu gf gx) = rf_len gx + 1 := rfl
          omega
    · obtain ⟨u1, u2, u3⟩ := hU k0
      have hU5 : rf_at U ≤ 5 := u1.1
      have hat := rf_gt_at u2
      have hxp := rf_at_pos x
      have e9 := g2.2.1 9 rfl
      have e84 := (g2.same 84 rfl).2
      have hlt := rf_nd_lt a1 x4.toNat List.mem_cons_self
      have hx4 := a1.1
      have r50u := g1.fld 66 50 (by decide) rfl
      have hhf := rf_ht_n (j := j) (u := uu) (f := f) (x := y) k0
      refine w_build_216 (PC := K) g1 ⟨by omega, by omega⟩ ?_ (fun _ _ q => q)
      intro a1' ha1 K' hK'
      refine (c_r_clv hsL 5 (d + 1) (by omega)).1 x x4 a1' k fz u K' (by omega) g1 ⟨by omega, by omega⟩ ?_ (by omega) (by omega) (by omega) (by omega) (by omega) a1 a2 a3 hty (fun z t p1 p2 p3 p4 p5 p6 p7 => hK' z t (hK z t p1 ?_ ?_ ?_))
      · rw [ha1, ej, e84]
        exact rf_is_up u3 g2.2.2.1.1
      · exact rf_FB_cl h4 g2 p2 p3 p4 p5
      · obtain ⟨d1, d2, d3, d4⟩ := p6
        have eo : t.2.2 = u.2.2 := (p2 0).2
        rw [hs1]
        refine ⟨by push_cast; omega, by push_cast; omega, ?_, by rw [eo]; omega⟩
        push_cast
        omega
      · obtain ⟨N, n1, n2, n3, n4, n5, ⟨n6, n7, n8⟩, ⟨n9, n10⟩, n11⟩ := p7
        obtain ⟨_, _, af, _⟩ := a1
        have hsm : k.1 = 2 → k.2 ∈ Γ := by
          rcases hsc with ⟨z, _⟩ | ⟨_, z, _⟩
          · exact absurd z k0
          · exact z
        have hsf : (rf_sc rf_G1 f).2 Γ := by
          rcases hsc with ⟨z, _⟩ | ⟨_, _, _, z⟩
          · exact absurd z k0
          · exact z
        have h2i : k.1 = 2 → k.2 < u.1 66 58 := fun q => by
          rcases u1.2 with z | z | z | z
          · omega
          · omega
          · have := z.2.1.2
            have := (g2.2.2.1.2 0).1.1
            omega
          · omega
        refine ⟨N, n1, n2, fun i hi => by have := n3 i hi; omega, n4, n5, ⟨fun us v => ?_, ?_⟩, ?_⟩
        · rw [n6 us v h2i]
          constructor
          · rintro ⟨q1, q2, q3, q4⟩
            exact Or.inr ⟨q1, q2, q3, (hlf (by omega) us).mpr q4⟩
          · rintro (⟨q, _⟩ | ⟨q1, q2, q3, q4⟩)
            · exact absurd q k0
            · exact ⟨q1, q2, q3, (hlf (by omega) us).mp q4⟩
        · refine n7 (rf_G t) Γ (rf_G_mo t) hsm (fun q => ?_) ((rf_sc_up p4 af).2 _ s1)
          obtain ⟨hv1, hv2⟩ := hv3 q
          obtain ⟨hl1, hl2⟩ := hvs q
          obtain ⟨⟨xx, ⟨z1, z2, z3, z4⟩, z5, z6⟩, hnd⟩ := n8 q
          rw [hv1] at hnd ⊢
          refine ⟨rf_lf2_sc hl1 hsf, fun Γ' hΓ => ?_⟩
          have hln := rf_rp_len z6
          have er : rf_rv t x4 = rf_rl t (t.2.1 104 x4.toNat) (rf_args xx).length := by
            unfold rf_rv
            rw [show (t.1 66 56 - t.2.1 104 x4.toNat).toNat = (rf_args xx).length by omega]
          rw [er] at hnd hΓ
          exact ⟨xx, z5, ⟨z3, by omega⟩, hnd hl2 (fun v hv => (rf_vw_lt hv2 v hv).2), hΓ⟩
        · rw [hhf]
          by_cases q : k.1 = 3
          · have := n10 q
            omega
          · have := n9 q
            omega


theorem c_r_build {sL : Nat} {sx : Nat → Int32} (hsL : sL ≤ 3072) : ∀ Z d : Nat, Z ≤ 1000 → 9 * Z + 22 + Z ≤ d → ∀ (m : rf_N) (x : rf_T) (Γ : List Int) (r : Int) (s : sx_S) (K : Int → sx_S → Prop), cx_I s → rf_ym s m r → (rf_ht m).1 ≤ Z → (rf_gt (rf_RH s) (rf_RP s) m).1 x → (rf_gd m).1 → (rf_sc rf_G1 m).1 Γ → (2 ≤ s.1 66 9 ∧ s.1 66 9 ≤ 6000) → rf_RB s (rf_s1 m) → (∀ (z : Int) (t : sx_S), cx_I t → rf_FB s t → rf_CB s t (rf_s1 m) → rf_made (s.1 66 50) x t z (rf_PB m Γ t) → K z t) → sx_C sL sx d 182 [.inr (.inl 66), .inl r] s K := by
  intro Z
  induction Z with
  | zero =>
    intro d _ hd m x Γ r s K hI hm hh hx
    cases m with
    | leaf => exact hx.elim
    | inner j k u f y =>
      exfalso
      by_cases k0 : k.1 = 0
      · have := rf_ht_0 (j := j) (u := u) (f := f) (x := y) k0
        omega
      · have := rf_ht_n (j := j) (u := u) (f := f) (x := y) k0
        omega
  | succ Z ih =>
    intro d hZ hd
    obtain ⟨e, rfl⟩ : ∃ e, d = e + 2 := ⟨d - 2, by omega⟩
    exact rf_bd_ok hsL (by omega) (by omega) (ih (e + 1) (by omega) (by omega))
end
section
/-! ===== the reference: distinct ===== -/
theorem cx_outb_66 {p : Nat} (h : p ≠ 66) : cx_outb [(66, 66)] p = true := by
  unfold cx_outb
  rw [Bool.and_eq_true, Bool.or_eq_true]
  refine ⟨?_, rfl⟩
  rcases Nat.lt_or_gt_of_ne h with q | q
  · exact Or.inl (Nat.ble_eq.mpr q)
  · exact Or.inr (Nat.ble_eq.mpr q)
/-- what checking leaves as it was; only nodes in S are given a meaning -/
def rf_FC (s t : sx_S) (S : List Nat) : Prop := (∀ p, cx_out [(66, 66), (72, 73), (82, 84), (93, 94), (100, 106)] p → t.1 p = s.1 p ∧ t.2.1 p = s.2.1 p) ∧ rf_f [9, 40, 41, 50, 56, 58] s t ∧ rf_xu s t ∧ rf_ag 93 94 (s.1 66 34) s t ∧ (∀ p j : Nat, 82 ≤ p → p ≤ 84 → j ∉ S → t.2.1 p j = s.2.1 p j) ∧ rf_ag 100 103 (s.1 66 50) s t ∧ (∀ o, o < s.2.2.2 → t.2.2.1 o = s.2.2.1 o) ∧ s.2.2.2 ≤ t.2.2.2
theorem rf_FC_refl (s : sx_S) (S : List Nat) : rf_FC s s S := ⟨fun _ _ => ⟨rfl, rfl⟩, rf_f_refl _ _, rf_xu_refl _, rf_ag_refl _ _ _ _, fun _ _ _ _ _ => rfl, rf_ag_refl _ _ _ _, fun _ _ => rfl, Nat.le_refl _⟩
theorem rf_FC_trans {s t u : sx_S} {S S' T : List Nat} (h2 : rf_FC t u S') (h1 : rf_FC s t S) (hS : ∀ j ∈ S, j ∈ T) (hS' : ∀ j ∈ S', j ∈ T) : rf_FC s u T := by
  obtain ⟨a1, a2, a3, a4, a5, a6, a7, a8⟩ := h1
  obtain ⟨b1, b2, b3, b4, b5, b6, b7, b8⟩ := h2
  refine ⟨fun p hp => ⟨(b1 p hp).1.trans (a1 p hp).1, (b1 p hp).2.trans (a1 p hp).2⟩, rf_f_step b2 rfl a2, rf_xu_trans b3 a3, rf_ag_trans b4 (by rw [a2 34 rfl]; exact Int.le_refl _) a4, fun p j q1 q2 q3 => (b5 p j q1 q2 (fun z => q3 (hS' j z))).trans (a5 p j q1 q2 (fun z => q3 (hS j z))), rf_ag_trans b6 (a3.2 0).1.2.2.1 a6, fun o ho => (b7 o (by omega)).trans (a7 o ho), Nat.le_trans a8 b8⟩
theorem rf_FC_sub {s t : sx_S} {S T : List Nat} (h : rf_FC s t S) (hS : ∀ j ∈ S, j ∈ T) : rf_FC s t T := rf_FC_trans h (rf_FC_refl s []) (fun _ z => absurd z List.not_mem_nil) hS
theorem rf_FC.same {s t : sx_S} {S : List Nat} (h : rf_FC s t S) (p : Nat) (hp : cx_outb [(66, 66), (72, 73), (82, 84), (93, 94), (100, 106)] p = true) : t.1 p = s.1 p ∧ t.2.1 p = s.2.1 p := h.1 p (cx_outb_ok hp)
theorem rf_FC_FB {s t : sx_S} (h : rf_FB s t) : rf_FC s t [] := by
  obtain ⟨a1, a2, a3, a4, a5, a6⟩ := h
  have e : ∀ p, cx_outb [(66, 66), (100, 106)] p = true → t.2.1 p = s.2.1 p := fun p hp => (a1 p (cx_outb_ok hp)).2
  refine ⟨fun p hp => a1 p (cx_le_ok (W := [(66, 66), (72, 73), (82, 84), (93, 94), (100, 106)]) rfl hp), rf_f_step a2 rfl (rf_f_refl _ _), a3, fun p j h1 h2 _ => ?_, fun p j h1 h2 _ => ?_, a4, a5, a6⟩
  · have hp : p = 93 ∨ p = 94 := by omega
    rcases hp with rfl | rfl
    · rw [e 93 rfl]
    · rw [e 94 rfl]
  · have hp : p = 82 ∨ p = 83 ∨ p = 84 := by omega
    rcases hp with rfl | rfl | rfl
    · rw [e 82 rfl]
    · rw [e 83 rfl]
    · rw [e 84 rfl]
theorem rf_FC_W {s t : sx_S} (hF : cx_F [(66, 66)] s t) (hf : rf_f [40, 41] s t) : rf_FC s t [] := by
  have e : t.2.2 = s.2.2 := (hF 0).2
  have a : ∀ p, cx_outb [(66, 66)] p = true → t.2.1 p = s.2.1 p := fun p hp => (hF.same p hp).2
  refine ⟨fun p hp => (hF p).1 (cx_le_ok (W := [(66, 66), (72, 73), (82, 84), (93, 94), (100, 106)]) rfl hp), rf_f_step hf rfl (rf_f_refl _ _), ⟨fun j => ?_, fun j => ?_⟩, fun p j h1 h2 _ => ?_, fun p j h1 h2 _ => ?_, fun p j h1 h2 _ => ?_, fun _ _ => by rw [e], by rw [e]; exact Nat.le_refl _⟩
  · rw [hf 9 rfl, a 72 rfl, a 73 rfl]
    exact ⟨Int.le_refl _, fun _ => ⟨rfl, rfl⟩⟩
  · rw [hf 58 rfl, hf 56 rfl, hf 50 rfl, hf 42 rfl, hf 45 rfl, a 106 rfl, a 105 rfl, a 104 rfl, a 96 rfl, a 123 rfl]
    exact ⟨⟨Int.le_refl _, Int.le_refl _, Int.le_refl _, rfl, rfl⟩, fun _ => rfl, fun _ => rfl, fun _ => rfl, rfl, rfl⟩
  · rw [a p (cx_outb_66 (by omega))]
  · rw [a p (cx_outb_66 (by omega))]
  · rw [a p (cx_outb_66 (by omega))]
theorem rf_ym_C {s t : sx_S} {S : List Nat} (h : rf_FC s t S) {n : rf_N} {i : Int} (hd : ∀ j ∈ rf_idx n, j ∉ S) (g : rf_ym s n i) : rf_ym t n i := by
  refine rf_nd_mono (Int.le_of_eq (h.2.1 12 rfl).symm) (fun j hj => ⟨?_, h.2.2.2.2.1 82 j (by omega) (by omega) (hd j hj), by rw [(h.same 80 rfl).2], by rw [(h.same 81 rfl).2]⟩) g
  unfold rf_rk
  rw [(h.same 74 rfl).2, h.2.2.2.2.1 83 j (by omega) (by omega) (hd j hj)]
theorem rf_Rt_C {s t : sx_S} {S : List Nat} (h : rf_FC s t S) {n : rf_N} (hd : ∀ j ∈ rf_idx n, j ∉ S) : (∀ x, (rf_gt (rf_RH s) (rf_RP s) n).1 x → (rf_gt (rf_RH t) (rf_RP t) n).1 x) ∧ (∀ x y, (rf_gt (rf_RH s) (rf_RP s) n).2 x y → (rf_gt (rf_RH t) (rf_RP t) n).2 x y) := rf_Rt_up h.2.2.1 (fun j hj => h.2.2.2.2.1 84 j (by omega) (by omega) (hd j hj))
theorem rf_CB_trans {s t u : sx_S} {a b c : Nat} (h2 : rf_CB t u b) (h1 : rf_CB s t a) (hc : a + b ≤ c) : rf_CB s u c := by
  obtain ⟨a1, a2, a3, a4⟩ := h1
  obtain ⟨b1, b2, b3, b4⟩ := h2
  exact ⟨by omega, by omega, by omega, by omega⟩
theorem rf_CB_same {s t u : sx_S} {c : Nat} (h1 : rf_CB s t c) (h50 : u.1 66 50 = t.1 66 50) (h56 : u.1 66 56 = t.1 66 56) (h58 : u.1 66 58 = t.1 66 58) (ho : u.2.2 = t.2.2) : rf_CB s u c := by
  unfold rf_CB
  rw [h50, h56, h58, ho]
  exact h1
theorem rf_RB_CB {s t : sx_S} {a b c : Nat} (h : rf_RB s c) (h1 : rf_CB s t a) (hc : a + b ≤ c) : rf_RB t b := by
  obtain ⟨a1, a2, a3, a4⟩ := h1
  obtain ⟨b1, b2, b3, b4⟩ := h
  exact ⟨by omega, by omega, by omega, by omega⟩
theorem w_distinct {CALL : sx_Ca} {sL : Nat} {sx : Nat → Int32} {Q : Nat → sx_L → sx_S → Prop} {R : Int → sx_S → Prop} {s : sx_S} {r : Int} (hI : cx_I s) (q : 0 ≤ r ∧ r ≤ 599) (hQ : ∀ u : Int, u = s.2.1 80 r.toNat → Q 7 [(0, .inr (.inl 66)), (1, .inl r), (2, .inl u)] s) : sx_wp true sL sx eX12_distinct CALL [(7, [0, 1, 2]), (47, [0, 1, 2, 3, 4])] Q R 400 0 (sx_argsF 0 [.inr (.inl 66), .inl r]) [] s := by
  repeat' (first | (with_reducible intro _) | (refine And.intro ?_ ?_) | (refine hQ _ ?_))
  all_goals (try dsimp only)
  all_goals (first | trivial | assumption | omega | (dsimp only at *; omega) | (subst_vars; assumption) | (subst_vars; omega) | (simp only [sx_w_t] at *; omega) | (subst_vars; dsimp only at *; simp only [sx_w_t] at *; omega) | (constructor <;> omega) | (refine cx_I_ua rfl rfl hI ?_ ?_ <;> omega) | skip)
theorem w_distinct_7 {CALL : sx_Ca} {sL : Nat} {sx : Nat → Int32} {Q : Nat → sx_L → sx_S → Prop} {R : Int → sx_S → Prop} (h_wrong : ∀ (a0 a1 : Int) (s : sx_S) (K : Int → sx_S → Prop), cx_I s → (1 ≤ a0 ∧ a0 ≤ 6) → (0 ≤ a1 ∧ a1 ≤ 241) → (∀ (z : Int) (t : sx_S), cx_I t → cx_F [(66, 66)] s t → (rf_f [40, 41] s t) → (t.1 66 40 ≠ 0) → ((s.1 66 40 ≠ 0 ∧ t.1 66 40 = s.1 66 40 ∧ t.1 66 41 = s.1 66 41) ∨ (s.1 66 40 = 0 ∧ t.1 66 40 = a0 ∧ t.1 66 41 = a1)) → K z t) → CALL 165 [.inr (.inl 66), .inl a0, .inl a1] s K) {s : sx_S} {r x2 : Int} {PB : Int → sx_S → Prop} {PV : Int → sx_S → Int → Prop} (q : 0 ≤ r ∧ r ≤ 599) (q2 : -1 ≤ x2 ∧ x2 ≤ 599) (hE : x2 = -1 → R 0 s) (hB : x2 ≠ -1 → ∀ K : Int → sx_S → Prop, (∀ z t, PB z t → K z t) → CALL 182 [.inr (.inl 66), .inl x2] s K) (hV : ∀ z t, PB z t → ∀ K : Int → sx_S → Prop, (∀ w, PV z t w → K w t) → CALL 183 [.inr (.inl 66), .inl z] t K) (hIB : ∀ z t, PB z t → cx_I t) (hVr : ∀ z t w, PV z t w → -2147483648 ≤ w ∧ w ≤ 2147483647) (hW : ∀ z t, PB z t → PV z t (-1) → ∀ t', cx_I t' → cx_F [(66, 66)] t t' → rf_f [40, 41] t t' → t'.1 66 40 ≠ 0 → ((t.1 66 40 ≠ 0 ∧ t'.1 66 40 = t.1 66 40 ∧ t'.1 66 41 = t.1 66 41) ∨ (t.1 66 40 = 0 ∧ t'.1 66 40 = 5 ∧ t'.1 66 41 = t.2.1 75 r.toNat)) → R 0 t') (hQ : ∀ z t w, PB z t → PV z t w → w ≠ -1 → ∀ u : Int, u = t.2.1 80 r.toNat → Q 47 [(0, .inr (.inl 66)), (1, .inl r), (2, .inl x2), (3, .inl w), (4, .inl u)] t) : sx_wp true sL sx eX12_distinct CALL [(7, [0, 1, 2]), (47, [0, 1, 2, 3, 4])] Q R 400 7 [(0, .inr (.inl 66)), (1, .inl r), (2, .inl x2)] [] s := by
  repeat' (first | (with_reducible intro _) | (refine And.intro ?_ ?_) | (refine hE ?_) | (refine hQ _ _ _ (by assumption) (by assumption) ?_ _ ?_) | (refine hB ?_ _ ?_) | (refine hV _ _ (by assumption) _ ?_) | (refine h_wrong _ _ _ _ ?_ ?_ ?_ ?_) | (refine hW _ _ (by assumption) (by subst_vars; assumption) _ (by assumption) (by assumption) (by assumption) (by assumption) ?_))
  all_goals (try dsimp only)
  all_goals (first | trivial | assumption | omega | (exact hIB _ _ (by assumption)) | (exact (hVr _ _ _ (by assumption)).1) | (exact (hVr _ _ _ (by assumption)).2) | (dsimp only at *; omega) | skip)
end
section
/-! ===== the reference: distinct, its contract ===== -/
theorem rf_ym_CC {s u t : sx_S} (hu : rf_FC s u []) (ht : rf_FC s t []) {n : rf_N} {i : Int} (g : rf_ym u n i) : rf_ym t n i := by
  have e : ∀ j, rf_rk t j = rf_rk u j := fun j => by
    unfold rf_rk
    rw [(ht.same 74 rfl).2, (hu.same 74 rfl).2, ht.2.2.2.2.1 83 j (by omega) (by omega) List.not_mem_nil, hu.2.2.2.2.1 83 j (by omega) (by omega) List.not_mem_nil]
  refine rf_nd_mono (Int.le_of_eq ((hu.2.1 12 rfl).trans (ht.2.1 12 rfl).symm)) (fun j _ => ⟨e j, ?_, by rw [(ht.same 80 rfl).2, (hu.same 80 rfl).2], by rw [(ht.same 81 rfl).2, (hu.same 81 rfl).2]⟩) g
  rw [ht.2.2.2.2.1 82 j (by omega) (by omega) List.not_mem_nil, hu.2.2.2.2.1 82 j (by omega) (by omega) List.not_mem_nil]

theorem rf_gt_part {H : Nat → Int → Int → rf_T → Prop} {P : Nat → rf_T → Prop} {b : rf_N} {x : rf_T} : ∀ {a : rf_N} {u : rf_T}, (rf_gt H P (rf_snoc a b)).2 u x → ∃ w, (rf_gt H P b).2 w x ∧ rf_at w + rf_len a ≤ rf_at u
  | .leaf, u, h => ⟨u, h, Nat.le_refl _⟩
  | .inner j k v f y, u, ⟨A, B, h1, _, h3⟩ => by
    obtain ⟨w, h4, h5⟩ := rf_gt_part h3
    refine ⟨w, h4, ?_⟩
    have := rf_at_pos A
    have e : rf_at u = rf_at A + rf_at B := by
      rw [h1]
      rfl
    have e2 : rf_len (.inner j k v f y) = rf_len y + 1 := rfl
    omega
theorem rf_gt_len {H : Nat → Int → Int → rf_T → Prop} {P : Nat → rf_T → Prop} {x : rf_T} : ∀ {a : rf_N} {u : rf_T}, (rf_gt H P a).2 u x → rf_len a + rf_at x ≤ rf_at u
  | .leaf, u, h => by
    have e : u = x := h
    rw [e]
    exact Nat.le_of_eq (Nat.zero_add _)
  | .inner j k v f y, u, ⟨A, B, h1, _, h3⟩ => by
    have := rf_gt_len h3
    have := rf_at_pos A
    have e : rf_at u = rf_at A + rf_at B := by
      rw [h1]
      rfl
    have e2 : rf_len (.inner j k v f y) = rf_len y + 1 := rfl
    omega
theorem rf_gd_part {b : rf_N} : ∀ {a : rf_N}, (rf_gd (rf_snoc a b)).2 → (rf_gd b).2
  | .leaf, h => h
  | .inner _ _ _ _ _, h => rf_gd_part h.2
theorem rf_sc_part {G : Nat → Int → List Int → Prop} {Γ : List Int} {b : rf_N} : ∀ {a : rf_N}, (rf_sc G (rf_snoc a b)).2 Γ → (rf_sc G b).2 Γ
  | .leaf, h => h
  | .inner _ _ _ _ _, h => rf_sc_part h.2
theorem rf_ht_part {b : rf_N} : ∀ {a : rf_N}, (rf_ht b).2 ≤ (rf_ht (rf_snoc a b)).2
  | .leaf => Nat.le_refl _
  | .inner _ _ _ _ x => Nat.le_trans (rf_ht_part (a := x)) (Nat.le_max_right _ _)
theorem rf_nodup_part {b : rf_N} : ∀ {a : rf_N}, (rf_idx (rf_snoc a b)).Nodup → (rf_idx b).Nodup
  | .leaf, h => h
  | .inner j k _ f x, h => rf_nodup_part (a := x) ((List.nodup_append.mp (List.nodup_cons.mp h).2).2.1)
theorem rf_idx_slen (b : rf_N) : ∀ a : rf_N, (rf_idx (rf_snoc a b)).length = (rf_idx a).length + (rf_idx b).length
  | .leaf => (Nat.zero_add _).symm
  | .inner j k _ f x => by
    have := rf_idx_slen b x
    show (j :: (rf_idx f ++ rf_idx (rf_snoc x b))).length = (j :: (rf_idx f ++ rf_idx x)).length + _
    simp only [List.length_cons, List.length_append, this]
    omega
/-- what building a part wants, for a row -/
def rf_ro5 (s : sx_S) (Γ : List Int) (Z : Nat) (x : rf_T) (n : rf_N) : Prop := (∃ w, (rf_gt (rf_RH s) (rf_RP s) n).2 w x) ∧ (rf_gd n).2 ∧ (rf_sc rf_G1 n).2 Γ ∧ (rf_ht n).2 ≤ Z
theorem rf_ro5_part {s : sx_S} {Γ : List Int} {Z : Nat} {x : rf_T} {a b : rf_N} (h : rf_ro5 s Γ Z x (rf_snoc a b)) : rf_ro5 s Γ Z x b := by
  obtain ⟨⟨w, h1⟩, h2, h3, h4⟩ := h
  obtain ⟨w', h5, _⟩ := rf_gt_part h1
  exact ⟨⟨w', h5⟩, rf_gd_part h2, rf_sc_part h3, Nat.le_trans rf_ht_part h4⟩
/-- a part is built, and the variable is asked -/
theorem rf_bv {sL : Nat} {sx : Nat → Int32} (hsL : sL ≤ 3072) {Z d : Nat} (hZ : Z ≤ 1000) (hd : 10 * Z + 30 ≤ d) {s u : sx_S} {Γ : List Int} {x : rf_T} {j : Nat} {k : Int × Int} {v : Unit} {f y : rf_N} {i : Int} (hI : cx_I u) (hF : rf_FC s u []) (hr : rf_ro5 s Γ Z x (.inner j k v f y)) (hy : rf_ym u (.inner j k v f y) i) (h9 : 2 ≤ u.1 66 9 ∧ u.1 66 9 ≤ 6000) (hRB : rf_RB u (rf_s1 (.inner j k v f y))) : ∃ A, (∀ K : Int → sx_S → Prop, (∀ z t, (cx_I t ∧ rf_FB u t ∧ rf_CB u t (rf_s1 (.inner j k v f y)) ∧ rf_made (u.1 66 50) A t z (rf_PB (.inner j k v f y) Γ t)) → K z t) → sx_C sL sx d 182 [.inr (.inl 66), .inl i] u K) ∧ (∀ z t, (cx_I t ∧ rf_FB u t ∧ rf_CB u t (rf_s1 (.inner j k v f y)) ∧ rf_made (u.1 66 50) A t z (rf_PB (.inner j k v f y) Γ t)) → ∀ K : Int → sx_S → Prop, (∀ w, ((-2147483648 ≤ w ∧ w ≤ 2147483647) ∧ (w ≠ -1 → rf_lf (.inner j k v f y) w) ∧ ∀ q, rf_lf (.inner j k v f y) q → w = q) → K w t) → sx_C sL sx d 183 [.inr (.inl 66), .inl z] t K) := by
  obtain ⟨⟨w, A, B, h1, h2, h3⟩, h4, h5, h6⟩ := hr
  have hhr := rf_ht_r (j := j) (k := k) (u := v) (f := f) (x := y)
  refine ⟨A, fun K hK => ?_, ?_⟩
  · exact c_r_build hsL Z d hZ (by omega) (.inner j k v f y) A Γ i u K hI hy (by omega) ((rf_Rt_C hF (fun _ _ => List.not_mem_nil)).1 _ h2) h4.1 h5.1 h9 hRB (fun z t q1 q2 q3 q4 => hK z t ⟨q1, q2, q3, q4⟩)
  · rintro z t ⟨q1, q2, q3, ⟨N, n1, n2, n3, n4, n5, ⟨n6, n7⟩, n8⟩⟩ K hK
    exact c_r_varF hsL (9 * Z) d (by omega) N A z t K q1 (by omega) n1 n5 (by omega) (fun q z1 z2 z3 => hK q ⟨z1, fun hq => (n6 [] q).mp (z2 hq).2, fun p hp => z3 p ((n6 [] p).mpr hp)⟩)
end
