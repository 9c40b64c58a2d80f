section
/-! ===== the reference: check, piece by piece ===== -/
theorem c_r_newVarC {sL : Nat} {sx : Nat → Int32} (hsL : sL ≤ 3072) (d : Nat) (hd : 2 ≤ d) : ∀ (a0 : Int) (s : sx_S) (K : Int → sx_S → Prop), cx_I s → (0 ≤ a0 ∧ a0 ≤ 5999) → (s.1 66 58 ≤ 399999) → (∀ (z : Int) (t : sx_S), cx_I t → cx_F [(66, 66), (106, 106)] s t → (z = s.1 66 58) → (t.1 66 58 = s.1 66 58 + 1) → (rf_f [58] s t) → (rf_ag 106 106 (s.1 66 58) s t) → (t.2.1 106 z.toNat = a0) → (t.1 66 50 = s.1 66 50) → (t.1 66 34 = s.1 66 34) → K z t) → sx_C sL sx d 167 [.inr (.inl 66), .inl a0] s K := by
  intro a0 s K hI p0 p1 hK
  exact c_r_newVar hsL d hd _ _ _ hI p0 p1 (fun z t hJ hF q0 q1 q2 q3 q4 => hK z t hJ hF q0 q1 q2 q3 q4 (q2 50 rfl) (q2 34 rfl))

theorem w_check_158 {CALL : sx_Ca} {sL : Nat} {sx : Nat → Int32} {Q : Nat → sx_L → sx_S → Prop} {R : Int → sx_S → Prop} {s : sx_S} {r x2 x3 : Int} {PB : Int → sx_S → Prop} (hI : cx_I s) (q3 : -1 ≤ x3 ∧ x3 ≤ 599) (hE : (x3 = -1 ∨ s.1 66 40 ≠ 0) → Q 262 [(0, .inr (.inl 66)), (1, .inl r), (2, .inl x2)] s) (hC : x3 ≠ -1 → s.1 66 40 = 0 → ∀ K : Int → sx_S → Prop, (∀ z t, PB z t → K z t) → CALL 171 [.inr (.inl 66), .inl x3] s K) (hQ : ∀ z t, PB z t → Q 177 [(0, .inr (.inl 66)), (1, .inl r), (2, .inl x2), (3, .inl x3), (4, .inl z)] t) : sx_wp true sL sx eX12_check CALL [(100, [0, 1, 2]), (158, [0, 1, 2, 3]), (177, [0, 1, 2, 3, 4]), (234, [0, 1, 2, 3]), (262, [0, 1, 2])] Q R 400 158 [(0, .inr (.inl 66)), (1, .inl r), (2, .inl x2), (3, .inl x3)] [] s := by
  repeat' (first | (with_reducible intro _) | (refine And.intro ?_ ?_) | (refine hE ?_) | (refine hC (by first | omega | (dsimp only at *; omega) | (subst_vars; omega)) (by first | omega | (dsimp only at *; omega) | (subst_vars; omega)) _ ?_) | (refine hQ _ _ (by assumption)))
  all_goals (try dsimp only)
  all_goals (first | trivial | assumption | omega | (dsimp only at *; omega) | skip)
theorem w_check_234 {CALL : sx_Ca} {sL : Nat} {sx : Nat → Int32} {Q : Nat → sx_L → sx_S → Prop} {R : Int → sx_S → Prop} {s : sx_S} {r x2 x3 : Int} (hI : cx_I s) (q2 : 0 ≤ x2 ∧ x2 ≤ 5999) (q3 : 0 ≤ x3 ∧ x3 ≤ 599) (hQ : ∀ y u : Int, (s.1 66 40 = 0 → y = s.2.1 73 x2.toNat) → (s.1 66 40 ≠ 0 → y = 0) → u = s.2.1 81 x3.toNat → Q 158 [(0, .inr (.inl 66)), (1, .inl r), (2, .inl y), (3, .inl u)] s) : sx_wp true sL sx eX12_check CALL [(100, [0, 1, 2]), (158, [0, 1, 2, 3]), (177, [0, 1, 2, 3, 4]), (234, [0, 1, 2, 3]), (262, [0, 1, 2])] Q R 400 234 [(0, .inr (.inl 66)), (1, .inl r), (2, .inl x2), (3, .inl x3)] [] s := by
  repeat' (first | (with_reducible intro _) | (refine And.intro ?_ ?_) | (refine hQ _ _ ?_ ?_ ?_))
  all_goals (try dsimp only)
  all_goals (first | trivial | assumption | omega | (dsimp only at *; omega) | (exfalso; dsimp only at *; omega) | skip)
theorem w_check_262 {CALL : sx_Ca} {sL : Nat} {sx : Nat → Int32} {Q : Nat → sx_L → sx_S → Prop} {R : Int → sx_S → Prop} {s : sx_S} {r x2 : Int} {PD : sx_S → Prop} (hI : cx_I s) (q : 0 ≤ r ∧ r ≤ 599) (q2 : 0 ≤ x2 ∧ x2 ≤ 5999) (hK : (s.1 66 40 ≠ 0 ∨ s.2.1 83 r.toNat ≠ 3) → R x2 (s.1, sx_ua s.2.1 84 r.toNat x2, s.2.2)) (hD : s.1 66 40 = 0 → s.2.1 83 r.toNat = 3 → ∀ K : Int → sx_S → Prop, (∀ z t, PD t → K z t) → CALL 172 [.inr (.inl 66), .inl r] (s.1, sx_ua s.2.1 84 r.toNat x2, s.2.2) K) (hKD : ∀ t, PD t → R x2 t) : sx_wp true sL sx eX12_check CALL [(100, [0, 1, 2]), (158, [0, 1, 2, 3]), (177, [0, 1, 2, 3, 4]), (234, [0, 1, 2, 3]), (262, [0, 1, 2])] Q R 400 262 [(0, .inr (.inl 66)), (1, .inl r), (2, .inl x2)] [] s := by
  have e83 : (sx_ua s.2.1 84 r.toNat x2) 83 = s.2.1 83 := sx_ua_ne (by decide)
  repeat' (first | (with_reducible intro _) | (refine And.intro ?_ ?_) | (refine hK ?_) | (refine hD ?_ ?_ _ ?_) | (refine hKD _ (by assumption)))
  all_goals (try dsimp only)
  repeat' (first | (with_reducible assumption) | ((with_reducible (change cx_I (sx_uf _ _ _ _, _))); refine cx_I_uf rfl rfl ?_ ?_ ?_) | ((with_reducible (change cx_I (_, sx_ua _ _ _ _, _))); refine cx_I_ua rfl rfl ?_ ?_ ?_) | ((with_reducible (change cx_I (_, sx_ua _ 16 _ _, _))); refine cx_I_ari ?_ ?_ ?_) | ((with_reducible (change cx_I (sx_uf _ 11 6 _, _))); refine cx_I_ufA rfl ?_ ?_ ?_ ?_) | (with_reducible exact cx_F_refl _ _) | ((with_reducible (change cx_F _ _ (sx_uf _ _ _ _, _))); refine cx_F_uf rfl ?_) | ((with_reducible (change cx_F _ _ (_, sx_ua _ _ _ _, _))); refine cx_F_ua rfl ?_) | ((with_reducible (change cx_I (_, sx_cpy _ _ _ _ _ _, _))); refine cx_I_cpy rfl rfl rfl (by decide) ?_) | ((with_reducible (change cx_F _ _ (_, sx_cpy _ _ _ _ _ _, _))); refine cx_F_cpy rfl ?_) | ((with_reducible (change cx_F _ _ _)); refine cx_F_step (by assumption) rfl ?_) | ((with_reducible (change rf_f _ _ (sx_uf _ 66 _ _, _))); refine rf_f_uf rfl ?_) | ((with_reducible (change rf_f _ _ _)); exact (fun _ _ => rfl)) | ((with_reducible (change rf_f _ _ (_, sx_ua _ _ _ _, _))); refine rf_f_ua ?_) | ((with_reducible (change rf_f _ _ _)); assumption) | ((with_reducible (change rf_f _ _ _)); refine rf_f_step (by assumption) rfl ?_) | ((with_reducible (change rf_f _ _ _)); refine rf_f_F (by assumption) rfl ?_) | ((with_reducible (change rf_A _ (sx_uf _ _ _ _, _))); refine rf_A_uf ?_) | ((with_reducible (change rf_A _ (_, sx_ua _ _ _ _, _))); refine rf_A_ua rfl ?_) | ((with_reducible (change rf_A _ _)); assumption) | ((with_reducible (change rf_A _ _)); refine rf_A_F (by assumption) rfl ?_) | fail)
  all_goals (first | trivial | assumption | omega | (dsimp only at *; omega) | (dsimp only at *; rw [e83] at *; omega) | skip)
end
section
/-! ===== the reference: what checking keeps ===== -/
def rf_mm (s : sx_S) : rf_N → rf_N
  | .leaf => .leaf
  | .inner j _ _ f x => .inner j (rf_rk s j, s.2.1 82 j) () (rf_mm s f) (rf_mm s x)
theorem rf_mm_ym {s : sx_S} : ∀ {n : rf_N} {i : Int}, rf_rt s n i → rf_ym s (rf_mm s n) i
  | .leaf, _, h => h
  | .inner j k _ f x, i, ⟨h1, _, h3, h4⟩ => ⟨h1, ⟨rfl, rfl⟩, rf_mm_ym h3, rf_mm_ym h4⟩
theorem rf_mm_idx {s : sx_S} : ∀ n : rf_N, rf_idx (rf_mm s n) = rf_idx n
  | .leaf => rfl
  | .inner j k _ f x => by
    show j :: (rf_idx (rf_mm s f) ++ rf_idx (rf_mm s x)) = _
    rw [rf_mm_idx f, rf_mm_idx x]
    rfl
theorem rf_mm_eq {s t : sx_S} : ∀ {n : rf_N}, (∀ j ∈ rf_idx n, t.2.1 74 j = s.2.1 74 j ∧ t.2.1 82 j = s.2.1 82 j ∧ t.2.1 83 j = s.2.1 83 j) → rf_mm t n = rf_mm s n
  | .leaf, _ => rfl
  | .inner j k _ f x, h => by
    obtain ⟨h1, h2, h3⟩ := h j List.mem_cons_self
    have e : rf_rk t j = rf_rk s j := by
      unfold rf_rk
      rw [h1, h3]
    show (.inner j (rf_rk t j, t.2.1 82 j) () (rf_mm t f) (rf_mm t x) : rf_N) = _
    rw [e, h2, rf_mm_eq (n := f) (fun q hq => h q (List.mem_cons_of_mem _ (List.mem_append_left _ hq))), rf_mm_eq (n := x) (fun q hq => h q (List.mem_cons_of_mem _ (List.mem_append_right _ hq)))]
    rfl
theorem rf_mm_snoc {s : sx_S} (b : rf_N) : ∀ a : rf_N, rf_mm s (rf_snoc a b) = rf_snoc (rf_mm s a) (rf_mm s b)
  | .leaf => rfl
  | .inner j k _ f x => by
    show (.inner j _ () (rf_mm s f) (rf_mm s (rf_snoc x b)) : rf_N) = _
    rw [rf_mm_snoc b x]
    rfl
theorem rf_mm_ht {s : sx_S} : ∀ {n : rf_N} {i : Int}, rf_rt s n i → rf_ht (rf_mm s n) = rf_ht n
  | .leaf, _, _ => rfl
  | .inner j k _ f x, i, ⟨_, ⟨h2, _⟩, h3, h4⟩ => by
    show ((if rf_rk s j = 0 then 1 + (rf_ht (rf_mm s f)).1 else 1 + (rf_ht (rf_mm s f)).2, max (if rf_rk s j = 0 then 1 + (rf_ht (rf_mm s f)).1 else 1 + (rf_ht (rf_mm s f)).2) (rf_ht (rf_mm s x)).2) : Nat × Nat) = (if k.1 = 0 then 1 + (rf_ht f).1 else 1 + (rf_ht f).2, max (if k.1 = 0 then 1 + (rf_ht f).1 else 1 + (rf_ht f).2) (rf_ht x).2)
    rw [rf_mm_ht h3, rf_mm_ht h4]
    have e : (rf_rk s j = 0) = (k.1 = 0) := by
      unfold rf_rk
      rw [← h2]
      split
      · rename_i q
        simp [q]
      · rename_i q
        split
        · simp [q]
        · rename_i q2
          simp [q, q2]
    simp only [e]
def rf_al1 : rf_N → List Nat
  | .leaf => []
  | .inner j _ _ f _ => j :: rf_idx f
/-- what a check builds -/
def rf_cs : rf_N → Nat × Nat
  | .leaf => (0, 0)
  | .inner _ k _ f x => (1 + (if k.1 = 0 then (rf_cs f).1 else (rf_cs f).2 + (if k.1 = 3 then 4 * (rf_idx f).length else 0)), 1 + (if k.1 = 0 then (rf_cs f).1 else (rf_cs f).2 + (if k.1 = 3 then 4 * (rf_idx f).length else 0)) + (rf_cs x).2)
theorem rf_cs_snoc (b : rf_N) : ∀ a : rf_N, (rf_cs (rf_snoc a b)).2 = (rf_cs a).2 + (rf_cs b).2
  | .leaf => (Nat.zero_add _).symm
  | .inner j k _ f x => by
    show 1 + _ + (rf_cs (rf_snoc x b)).2 = 1 + _ + (rf_cs x).2 + _
    rw [rf_cs_snoc b x]
    omega
theorem rf_cs_lf : ∀ {n : rf_N}, (∀ us v, (rf_lf2 n).1 us v → (rf_cs n).1 ≤ rf_s1 n) ∧ (∀ us, (rf_lf2 n).2 us → (rf_cs n).2 ≤ (rf_idx n).length)
  | .leaf => ⟨fun _ _ h => h.elim, fun _ _ => Nat.le_refl _⟩
  | .inner j k u f x => by
    have ihf := rf_cs_lf (n := f)
    have ihx := rf_cs_lf (n := x)
    have hs := rf_s1_le (f := f)
    have h1 : ∀ us v, (rf_lf2 (.inner j k u f x)).1 us v → (rf_cs (.inner j k u f x)).1 ≤ 1 + (rf_idx f).length := by
      rintro us v (⟨q1, q2⟩ | ⟨q1, _, _, q2⟩)
      · have := ihf.1 _ _ q2
        show 1 + (if k.1 = 0 then (rf_cs f).1 else _) ≤ _
        rw [if_pos q1]
        omega
      · have := ihf.2 _ q2
        show 1 + (if k.1 = 0 then (rf_cs f).1 else (rf_cs f).2 + (if k.1 = 3 then 4 * (rf_idx f).length else 0)) ≤ _
        rw [if_neg (by omega), if_neg (by omega)]
        omega
    refine ⟨h1, ?_⟩
    rintro us ⟨w, us', _, q2, q3⟩
    have a1 := h1 _ _ q2
    have a2 := ihx.2 _ q3
    have a3 : (rf_idx (.inner j k u f x)).length = 1 + (rf_idx f).length + (rf_idx x).length := rf_s1_idx
    rw [a3]
    show (rf_cs (.inner j k u f x)).1 + (rf_cs x).2 ≤ _
    omega
theorem rf_cs_gd : ∀ {n : rf_N}, ((rf_gd n).1 → (rf_cs n).1 ≤ 5 * rf_s1 n) ∧ ((rf_gd n).2 → (rf_cs n).2 ≤ 5 * (rf_idx n).length)
  | .leaf => ⟨fun _ => Nat.zero_le _, fun _ => Nat.zero_le _⟩
  | .inner j k u f x => by
    have ihf := rf_cs_gd (n := f)
    have ihx := rf_cs_gd (n := x)
    have hs := rf_s1_le (f := f)
    have h1 : (rf_gd (.inner j k u f x)).1 → (rf_cs (.inner j k u f x)).1 ≤ 5 * (1 + (rf_idx f).length) := by
      rintro (⟨q1, q2⟩ | ⟨q1, q2, q3⟩)
      · have := ihf.1 q2
        show 1 + (if k.1 = 0 then (rf_cs f).1 else _) ≤ _
        rw [if_pos q1]
        omega
      · have := ihf.2 q2
        show 1 + (if k.1 = 0 then (rf_cs f).1 else (rf_cs f).2 + (if k.1 = 3 then 4 * (rf_idx f).length else 0)) ≤ _
        rw [if_neg q1]
        split
        · rename_i q
          obtain ⟨vs, e1, _⟩ := q3 q
          have := (rf_cs_lf (n := f)).2 _ e1
          omega
        · omega
    refine ⟨h1, ?_⟩
    rintro ⟨q1, q2⟩
    have a1 := h1 q1
    have a2 := ihx.2 q2
    have a3 : (rf_idx (.inner j k u f x)).length = 1 + (rf_idx f).length + (rf_idx x).length := rf_s1_idx
    rw [a3]
    show (rf_cs (.inner j k u f x)).1 + (rf_cs x).2 ≤ _
    omega
/-- the variables around -/
def rf_ga (s : sx_S) : Nat → List Int
  | 0 => []
  | n + 1 => s.2.1 94 n :: rf_ga s n
theorem rf_ga_eq {s t : sx_S} : ∀ {n : Nat}, (∀ q, q < n → t.2.1 94 q = s.2.1 94 q) → rf_ga t n = rf_ga s n
  | 0, _ => rfl
  | n + 1, h => by
    unfold rf_ga
    rw [rf_ga_eq (n := n) (fun q hq => h q (by omega)), h n (by omega)]
theorem rf_ga_mem {s : sx_S} {i : Nat} : ∀ {n : Nat}, i < n → s.2.1 94 i ∈ rf_ga s n
  | 0, h => absurd h (Nat.not_lt_zero _)
  | n + 1, h => by
    by_cases e : i = n
    · rw [e]
      exact List.mem_cons_self
    · exact List.mem_cons_of_mem _ (rf_ga_mem (by omega))
def rf_Rd (t : sx_S) (n : rf_N) (x : rf_T) (Γ : List Int) : Prop := (rf_gt (rf_RH t) (rf_RP t) (rf_mm t n)).1 x ∧ (rf_gd (rf_mm t n)).1 ∧ (rf_sc rf_G1 (rf_mm t n)).1 Γ
theorem rf_mm_C {s t : sx_S} {S : List Nat} (h : rf_FC s t S) {n : rf_N} (hd : ∀ j ∈ rf_idx n, j ∉ S) : rf_mm t n = rf_mm s n := rf_mm_eq (fun j hj => ⟨by rw [(h.same 74 rfl).2], h.2.2.2.2.1 82 j (by omega) (by omega) (hd j hj), h.2.2.2.2.1 83 j (by omega) (by omega) (hd j hj)⟩)
/-- the same, the number of variables around aside -/
def rf_F0 (m : Int) (s t : sx_S) (S : List Nat) : Prop := (∀ p, cx_out [(66, 66), (72, 73), (82, 84), (93, 94), (100, 106)] p → t.1 p = s.1 p ∧ t.2.1 p = s.2.1 p) ∧ rf_f [9, 34, 40, 41, 50, 56, 58] s t ∧ rf_xu s t ∧ rf_ag 93 94 m s t ∧ (∀ p j : Nat, 82 ≤ p → p ≤ 84 → j ∉ S → t.2.1 p j = s.2.1 p j) ∧ rf_ag 100 103 (s.1 66 50) s t ∧ (∀ o, o < s.2.2.2 → t.2.2.1 o = s.2.2.1 o) ∧ s.2.2.2 ≤ t.2.2.2
theorem rf_F0_trans {m : Int} {s t u : sx_S} {S S' T : List Nat} (h2 : rf_F0 m t u S') (h1 : rf_F0 m s t S) (hS : ∀ j ∈ S, j ∈ T) (hS' : ∀ j ∈ S', j ∈ T) : rf_F0 m s u T := by
  obtain ⟨a1, a2, a3, a4, a5, a6, a7, a8⟩ := h1
  obtain ⟨b1, b2, b3, b4, b5, b6, b7, b8⟩ := h2
  refine ⟨fun p hp => ⟨(b1 p hp).1.trans (a1 p hp).1, (b1 p hp).2.trans (a1 p hp).2⟩, rf_f_step b2 rfl a2, rf_xu_trans b3 a3, rf_ag_trans b4 (Int.le_refl _) a4, fun p j q1 q2 q3 => (b5 p j q1 q2 (fun z => q3 (hS' j z))).trans (a5 p j q1 q2 (fun z => q3 (hS j z))), rf_ag_trans b6 (a3.2 0).1.2.2.1 a6, fun o ho => (b7 o (by omega)).trans (a7 o ho), Nat.le_trans a8 b8⟩
theorem rf_F0_C {m : Int} {s t : sx_S} {S : List Nat} (h : rf_FC s t S) (hm : m ≤ s.1 66 34) : rf_F0 m s t S := by
  obtain ⟨a1, a2, a3, a4, a5, a6, a7, a8⟩ := h
  exact ⟨a1, rf_f_step a2 rfl (rf_f_refl _ _), a3, rf_ag_trans a4 hm (rf_ag_refl _ _ _ _), a5, a6, a7, a8⟩
theorem rf_C_F0 {s t : sx_S} {S : List Nat} (h : rf_F0 (s.1 66 34) s t S) (h34 : t.1 66 34 = s.1 66 34) : rf_FC s t S := by
  obtain ⟨a1, a2, a3, a4, a5, a6, a7, a8⟩ := h
  refine ⟨a1, fun k hk => ?_, a3, a4, a5, a6, a7, a8⟩
  by_cases e : k = 34
  · rw [e]
    exact h34
  · refine a2 k ?_
    simp at hk ⊢
    omega
theorem rf_F0.same {m : Int} {s t : sx_S} {S : List Nat} (h : rf_F0 m s t S) (p : Nat) (hp : cx_outb [(66, 66), (72, 73), (82, 84), (93, 94), (100, 106)] p = true) : t.1 p = s.1 p ∧ t.2.1 p = s.2.1 p := h.1 p (cx_outb_ok hp)
theorem rf_mm_F0 {m : Int} {s t : sx_S} {S : List Nat} (h : rf_F0 m s t S) {n : rf_N} (hd : ∀ j ∈ rf_idx n, j ∉ S) : rf_mm t n = rf_mm s n := rf_mm_eq (fun j hj => ⟨by rw [(h.same 74 rfl).2], h.2.2.2.2.1 82 j (by omega) (by omega) (hd j hj), h.2.2.2.2.1 83 j (by omega) (by omega) (hd j hj)⟩)
theorem rf_Rd_F0 {m : Int} {s t : sx_S} {S : List Nat} (h : rf_F0 m s t S) {n : rf_N} (hd : ∀ j ∈ rf_idx n, j ∉ S) {x : rf_T} {Γ : List Int} (g : rf_Rd s n x Γ) : rf_Rd t n x Γ := by
  obtain ⟨g1, g2, g3⟩ := g
  unfold rf_Rd
  rw [rf_mm_F0 h hd]
  refine ⟨(rf_Rt_up h.2.2.1 (fun j hj => h.2.2.2.2.1 84 j (by omega) (by omega) (hd j ?_))).1 _ g1, g2, g3⟩
  rw [rf_mm_idx] at hj
  exact hj
theorem rf_rt_F0 {m : Int} {s t : sx_S} {S : List Nat} (h : rf_F0 m s t S) {n : rf_N} {i : Int} (g : rf_rt s n i) : rf_rt t n i := by
  unfold rf_rt at g ⊢
  rw [(h.same 74 rfl).2, (h.same 75 rfl).2, (h.same 80 rfl).2, (h.same 81 rfl).2, h.2.1 12 rfl]
  exact g
theorem rf_rw_F0 {m : Int} {s t : sx_S} {S : List Nat} (h : rf_F0 m s t S) : ∀ {n : rf_N}, ((rf_rw s n).1 → (rf_rw t n).1) ∧ ((rf_rw s n).2 → (rf_rw t n).2)
  | .leaf => ⟨id, id⟩
  | .inner j k u f x => by
    have ihf := rf_rw_F0 h (n := f)
    have ihx := rf_rw_F0 h (n := x)
    have hD : rf_D s j → rf_D t j := by
      rintro ⟨y, h1, h2⟩
      refine ⟨y, ?_, ?_⟩
      · rw [(h.same 76 rfl).2]
        exact rf_is_up h1 h.2.2.1.1
      · rw [(h.same 78 rfl).2]
        exact h2
    have h1 : (rf_rw s (.inner j k u f x)).1 → (rf_rw t (.inner j k u f x)).1 := by
      rintro (⟨q1, q2, q3⟩ | ⟨q1, q2⟩)
      · exact Or.inl ⟨q1, hD q2, ihf.1 q3⟩
      · exact Or.inr ⟨q1, ihf.2 q2⟩
    exact ⟨h1, fun q => ⟨h1 q.1, ihx.2 q.2⟩⟩
theorem rf_CK_F0 {m : Int} {s t : sx_S} {S : List Nat} (h : rf_F0 m s t S) (hm : t.1 66 34 ≤ m) (h34 : t.1 66 34 ≤ s.1 66 34) (g : rf_CK s) : rf_CK t := by
  obtain ⟨_, _, a3, a4, _⟩ := h
  have up : ∀ z, rf_t5 s z → rf_t5 t z := fun z ⟨y, h1, h2⟩ => ⟨y, rf_is_up h1 a3.1, h2⟩
  intro k
  obtain ⟨g1, g2, g3⟩ := g k
  obtain ⟨⟨b1, b2, b3, b4, b5⟩, b6, b7, b8, b9, b10⟩ := a3.2 k
  refine ⟨fun q => ?_, fun q => ?_, fun q => ?_⟩
  · rw [b9]
    exact up _ (g1 (by omega))
  · rw [b10]
    exact up _ (g2 (by omega))
  · obtain ⟨c1, c2⟩ := g3 (by omega)
    rw [a4 94 k (by omega) (by omega) (by omega)]
    refine ⟨by omega, ?_⟩
    rw [(a3.2 (s.2.1 94 k).toNat).2.1 (by omega)]
    exact up _ c2
theorem rf_FC_mean {s t : sx_S} {r : Int} (h0 : 0 ≤ r) (hF : cx_F [(66, 66), (82, 83)] s t) (hf : rf_f [40, 41] s t) (hx : rf_ax r s t) : rf_FC s t [r.toNat] := by
  have e : t.2.2 = s.2.2 := (hF 0).2
  have a : ∀ p, cx_outb [(66, 66), (82, 83)] p = true → t.2.1 p = s.2.1 p := fun p hp => (hF.same p hp).2
  refine ⟨fun p hp => (hF p).1 (cx_le_ok (W := [(66, 66), (72, 73), (82, 84), (93, 94), (100, 106)]) rfl hp), rf_f_step hf rfl (rf_f_refl _ _), ⟨fun j => ?_, fun j => ?_⟩, rf_ag_F hF rfl (rf_ag_refl _ _ _ _), fun p j h1 h2 h3 => hx p j h1 h2 (fun z => h3 ?_), rf_ag_F hF rfl (rf_ag_refl _ _ _ _), fun _ _ => by rw [e], by rw [e]; exact Nat.le_refl _⟩
  · rw [hf 9 rfl, a 72 rfl, a 73 rfl]
    exact ⟨Int.le_refl _, fun _ => ⟨rfl, rfl⟩⟩
  · rw [hf 58 rfl, hf 56 rfl, hf 50 rfl, hf 42 rfl, hf 45 rfl, a 106 rfl, a 105 rfl, a 104 rfl, a 96 rfl, a 123 rfl]
    exact ⟨⟨Int.le_refl _, Int.le_refl _, Int.le_refl _, rfl, rfl⟩, fun _ => rfl, fun _ => rfl, fun _ => rfl, rfl, rfl⟩
  · rw [← z, Int.toNat_natCast]
    exact List.mem_cons_self
theorem rf_FC_84 {s : sx_S} {r v : Int} : rf_FC s (s.1, sx_ua s.2.1 84 r.toNat v, s.2.2) [r.toNat] := by
  have e : ∀ q, q ≠ 84 → sx_ua s.2.1 84 r.toNat v q = s.2.1 q := fun q hq => sx_ua_ne hq
  refine ⟨fun p hp => ⟨rfl, e p ?_⟩, rf_f_refl _ _, rf_xu_arr rfl (fun q hq => e q (by omega)), fun p j h1 h2 _ => ?_, fun p j h1 h2 h3 => ?_, fun p j h1 h2 _ => ?_, fun _ _ => rfl, Nat.le_refl _⟩
  · have := hp (82, 84) (by simp)
    dsimp only at this
    omega
  · dsimp only
    rw [e p (by omega)]
  · dsimp only
    by_cases q : p = 84
    · rw [q, sx_ua_same]
      dsimp only
      rw [if_neg (fun z => h3 (by rw [z]; exact List.mem_cons_self))]
    · rw [e p q]
  · dsimp only
    rw [e p (by omega)]
theorem rf_F0_34 {m : Int} {s : sx_S} {w : Int} : rf_F0 m s (sx_uf s.1 66 34 w, s.2) [] := by
  have e : ∀ q, q ≠ 34 → sx_uf s.1 66 34 w 66 q = s.1 66 q := fun q hq => by
    rw [sx_uf_if]
    exact if_neg (fun c => hq c.2)
  refine ⟨fun p hp => ⟨?_, rfl⟩, rf_f_uf rfl (F := s.1) (B := s.2) (rf_f_refl _ _), ⟨fun j => ?_, fun j => ?_⟩, rf_ag_refl _ _ _ _, fun _ _ _ _ _ => rfl, rf_ag_refl _ _ _ _, fun _ _ => rfl, Nat.le_refl _⟩
  · have := hp (66, 66) (by simp)
    dsimp only at this
    show sx_uf s.1 66 34 w p = _
    rw [sx_fv_ne (by omega)]
  · dsimp only
    rw [e 9 (by decide)]
    exact ⟨Int.le_refl _, fun _ => ⟨rfl, rfl⟩⟩
  · dsimp only
    rw [e 58 (by decide), e 56 (by decide), e 50 (by decide), e 42 (by decide), e 45 (by decide)]
    exact ⟨⟨Int.le_refl _, Int.le_refl _, Int.le_refl _, rfl, rfl⟩, fun _ => rfl, fun _ => rfl, fun _ => rfl, rfl, rfl⟩
theorem rf_F0_new {m : Int} {s t : sx_S} (hF : cx_F [(66, 66), (106, 106)] s t) (hf : rf_f [58] s t) (h58 : t.1 66 58 = s.1 66 58 + 1) (ha : rf_ag 106 106 (s.1 66 58) s t) : rf_F0 m s t [] := by
  have e : t.2.2 = s.2.2 := (hF 0).2
  have a : ∀ p, cx_outb [(66, 66), (106, 106)] p = true → t.2.1 p = s.2.1 p := fun p hp => (hF.same p hp).2
  refine ⟨fun p hp => (hF p).1 (cx_le_ok (W := [(66, 66), (72, 73), (82, 84), (93, 94), (100, 106)]) rfl hp), rf_f_step hf rfl (rf_f_refl _ _), rf_xu_new hF hf h58 ha, rf_ag_F hF rfl (rf_ag_refl _ _ _ _), fun p j h1 h2 _ => ?_, rf_ag_F hF rfl (rf_ag_refl _ _ _ _), fun _ _ => by rw [e], by rw [e]; exact Nat.le_refl _⟩
  have hp : p = 82 ∨ p = 83 ∨ p = 84 := by omega
  rcases hp with rfl | rfl | rfl
  · rw [a 82 rfl]
  · rw [a 83 rfl]
  · rw [a 84 rfl]
theorem rf_F0_arw {m : Int} {s t : sx_S} (hF : cx_F [(66, 66), (72, 73)] s t) (hf : rf_f [9] s t) (hu : rf_tu s t) : rf_F0 m s t [] := by
  have e : t.2.2 = s.2.2 := (hF 0).2
  have a : ∀ p, cx_outb [(66, 66), (72, 73)] p = true → t.2.1 p = s.2.1 p := fun p hp => (hF.same p hp).2
  refine ⟨fun p hp => (hF p).1 (cx_le_ok (W := [(66, 66), (72, 73), (82, 84), (93, 94), (100, 106)]) rfl hp), rf_f_step hf rfl (rf_f_refl _ _), ⟨hu, fun j => ?_⟩, rf_ag_F hF rfl (rf_ag_refl _ _ _ _), fun p j h1 h2 _ => ?_, rf_ag_F hF rfl (rf_ag_refl _ _ _ _), fun _ _ => by rw [e], by rw [e]; exact Nat.le_refl _⟩
  · rw [hf 58 rfl, hf 56 rfl, hf 50 rfl, hf 42 rfl, hf 45 rfl, a 106 rfl, a 105 rfl, a 104 rfl, a 96 rfl, a 123 rfl]
    exact ⟨⟨Int.le_refl _, Int.le_refl _, Int.le_refl _, rfl, rfl⟩, fun _ => rfl, fun _ => rfl, fun _ => rfl, rfl, rfl⟩
  · have hp : p = 82 ∨ p = 83 ∨ p = 84 := by omega
    rcases hp with rfl | rfl | rfl
    · rw [a 82 rfl]
    · rw [a 83 rfl]
    · rw [a 84 rfl]
/-- a variable more around -/
theorem rf_F0_push {t1 : sx_S} {r z1 w n1 n2 tok v : Int} {m : Int} (h1 : n1 = m) (h2 : n2 = m) (h0 : 0 ≤ m) : rf_F0 m t1 (sx_uf t1.1 66 34 w, sx_ua (sx_ua (sx_ua t1.2.1 82 r.toNat z1) 93 n1.toNat tok) 94 n2.toNat v, t1.2.2) [r.toNat] := by
  have e : ∀ q, q ≠ 34 → sx_uf t1.1 66 34 w 66 q = t1.1 66 q := fun q hq => by
    rw [sx_uf_if]
    exact if_neg (fun c => hq c.2)
  have a : ∀ q, q ≠ 82 → q ≠ 93 → q ≠ 94 → (sx_ua (sx_ua (sx_ua t1.2.1 82 r.toNat z1) 93 n1.toNat tok) 94 n2.toNat v) q = t1.2.1 q := fun q q1 q2 q3 => by
    rw [sx_ua_ne q3, sx_ua_ne q2, sx_ua_ne q1]
  refine ⟨fun p hp => ⟨?_, ?_⟩, ?_, ⟨fun j => ?_, fun j => ?_⟩, ?_, fun p j q1 q2 q3 => ?_, fun p j q1 q2 _ => ?_, fun _ _ => rfl, Nat.le_refl _⟩
  · have := hp (66, 66) (by simp)
    dsimp only at this
    show sx_uf t1.1 66 34 w p = _
    rw [sx_fv_ne (by omega)]
  · have z1 := hp (82, 84) (by simp)
    have z2 := hp (93, 94) (by simp)
    dsimp only at z1 z2 ⊢
    exact a p (by omega) (by omega) (by omega)
  · exact rf_f_uf rfl (rf_f_ua (rf_f_ua (rf_f_ua (F := t1.1) (A := t1.2.1) (B := t1.2.2) (rf_f_refl _ _))))
  · dsimp only
    rw [e 9 (by decide), a 72 (by decide) (by decide) (by decide), a 73 (by decide) (by decide) (by decide)]
    exact ⟨Int.le_refl _, fun _ => ⟨rfl, rfl⟩⟩
  · dsimp only
    rw [e 58 (by decide), e 56 (by decide), e 50 (by decide), e 42 (by decide), e 45 (by decide), a 106 (by decide) (by decide) (by decide), a 105 (by decide) (by decide) (by decide), a 104 (by decide) (by decide) (by decide), a 96 (by decide) (by decide) (by decide), a 123 (by decide) (by decide) (by decide)]
    exact ⟨⟨Int.le_refl _, Int.le_refl _, Int.le_refl _, rfl, rfl⟩, fun _ => rfl, fun _ => rfl, fun _ => rfl, rfl, rfl⟩
  · exact rf_ag_uf (rf_ag_ua (by omega) (by omega) (rf_ag_ua (by omega) (by omega) (rf_ag_uo rfl (F := t1.1) (A := t1.2.1) (B := t1.2.2) (rf_ag_refl _ _ _ _))))
  · dsimp only
    by_cases q : p = 82
    · rw [q, sx_ua_ne (by decide), sx_ua_ne (by decide), sx_ua_same]
      dsimp only
      rw [if_neg (fun z => q3 (by rw [z]; exact List.mem_cons_self))]
    · rw [a p q (by omega) (by omega)]
  · dsimp only
    rw [a p (by omega) (by omega) (by omega)]
theorem rf_nodup_disj {b : rf_N} : ∀ {a : rf_N}, (rf_idx (rf_snoc a b)).Nodup → ∀ j ∈ rf_idx a, j ∉ rf_idx b
  | .leaf, _, j, hj => absurd hj List.not_mem_nil
  | .inner i k _ f x, h, j, hj => by
    obtain ⟨h1, h2⟩ := List.nodup_cons.mp h
    obtain ⟨h3, h4, h5⟩ := List.nodup_append.mp h2
    rcases List.mem_cons.mp hj with rfl | hj
    · exact fun q => h1 (List.mem_append_right _ ((rf_idx_snoc _ _ _).mpr (Or.inr q)))
    · rcases List.mem_append.mp hj with hj | hj
      · exact fun q => h5 j hj j ((rf_idx_snoc _ _ _).mpr (Or.inr q)) rfl
      · exact rf_nodup_disj h4 j hj
end
section
/-! ===== the reference: check ===== -/
/-- an application under way: its head, the parts that are checked; w: what is left -/
def rf_Ap (s u : sx_S) (j : Nat) (D : rf_N) (Γ : List Int) (c : Nat) (w : rf_T) : Prop := ∃ U, (rf_rk u j ≠ 0 ∧ rf_rk u j = u.2.1 83 j ∧ rf_RH u j (rf_rk u j) (u.2.1 82 j) U ∧ (rf_rk u j = 2 → u.2.1 82 j ∈ Γ)) ∧ (rf_gt (rf_RH u) (rf_RP u) (rf_mm u D)).2 U w ∧ (rf_gd (rf_mm u D)).2 ∧ (rf_sc rf_G1 (rf_mm u D)).2 Γ ∧ rf_CB s u (1 + (rf_cs (rf_mm u D)).2 + c)
theorem rf_Ap_C {s u t : sx_S} {S : List Nat} {j : Nat} {D : rf_N} {Γ : List Int} {c c2 : Nat} {w : rf_T} (h : rf_FC u t S) (hj : j ∉ S) (hD : ∀ i ∈ rf_idx D, i ∉ S) (hc : rf_CB u t c2) (g : rf_Ap s u j D Γ c w) : rf_Ap s t j D Γ (c + c2) w := by
  obtain ⟨U, ⟨g1, g2, g3, g4⟩, g5, g6, g7, g8⟩ := g
  have e83 := h.2.2.2.2.1 83 j (by omega) (by omega) hj
  have e82 := h.2.2.2.2.1 82 j (by omega) (by omega) hj
  have erk : rf_rk t j = rf_rk u j := by
    unfold rf_rk
    rw [(h.same 74 rfl).2, e83]
  have em := rf_mm_C h hD
  refine ⟨U, ⟨by rw [erk]; exact g1, by rw [erk, e83]; exact g2, ?_, by rw [erk, e82]; exact g4⟩, ?_, by rw [em]; exact g6, by rw [em]; exact g7, ?_⟩
  · rw [erk, e82]
    exact rf_RH_up h.2.2.1 g3
  · rw [em]
    refine (rf_Rt_C h (fun i hi => ?_)).2 _ _ g5
    rw [rf_mm_idx] at hi
    exact hD i hi
  · rw [em]
    exact rf_CB_trans hc g8 (by omega)
theorem rf_Rd_C {s t : sx_S} {S : List Nat} (h : rf_FC s t S) {n : rf_N} (hd : ∀ j ∈ rf_idx n, j ∉ S) {x : rf_T} {Γ : List Int} (g : rf_Rd s n x Γ) : rf_Rd t n x Γ := rf_Rd_F0 (rf_F0_C h (Int.le_refl _)) hd g
theorem rf_rk_eq {s t : sx_S} {j : Nat} (h1 : t.2.1 74 j = s.2.1 74 j) (h2 : t.2.1 83 j = s.2.1 83 j) : rf_rk t j = rf_rk s j := by
  unfold rf_rk
  rw [h1, h2]
theorem rf_rw_part {s : sx_S} {b : rf_N} (hb : b ≠ .leaf) : ∀ {a : rf_N}, (rf_rw s (rf_snoc a b)).2 → (rf_rw s b).1
  | .leaf, h => by
    cases b with
    | leaf => exact absurd rfl hb
    | inner j k u f x => exact h.1
  | .inner _ _ _ _ _, h => rf_rw_part hb h.2
theorem rf_gd_snoc {b : rf_N} : ∀ {a : rf_N}, (rf_gd a).2 → (rf_gd b).2 → (rf_gd (rf_snoc a b)).2
  | .leaf, _, g => g
  | .inner _ _ _ _ _, h, g => ⟨h.1, rf_gd_snoc h.2 g⟩
end
section
/-! ===== the reference: equation, piece by piece ===== -/
theorem w_eq {CALL : sx_Ca} {sL : Nat} {sx : Nat → Int32} {Q : Nat → sx_L → sx_S → Prop} {R : Int → sx_S → Prop} (h_wrong : ∀ (a0 a1 : Int) (s : sx_S) (K : Int → sx_S → Prop), cx_I s → (1 ≤ a0 ∧ a0 ≤ 6) → (0 ≤ a1 ∧ a1 ≤ 241) → (∀ (z : Int) (t : sx_S), cx_I t → cx_F [(66, 66)] s t → (rf_f [40, 41] s t) → (t.1 66 40 ≠ 0) → ((s.1 66 40 ≠ 0 ∧ t.1 66 40 = s.1 66 40 ∧ t.1 66 41 = s.1 66 41) ∨ (s.1 66 40 = 0 ∧ t.1 66 40 = a0 ∧ t.1 66 41 = a1)) → K z t) → CALL 165 [.inr (.inl 66), .inl a0, .inl a1] s K) {s : sx_S} {r : Int} {PB : Int → sx_S → Prop} (hI : cx_I s) (q : 0 ≤ r ∧ r ≤ 59) (hW : s.1 66 47 = 4 → ∀ (tok : Int) (t' : sx_S), (0 ≤ tok ∧ tok ≤ 241) → cx_I t' → cx_F [(66, 66)] s t' → rf_f [40, 41] s t' → t'.1 66 40 ≠ 0 → ((s.1 66 40 ≠ 0 ∧ t'.1 66 40 = s.1 66 40 ∧ t'.1 66 41 = s.1 66 41) ∨ (s.1 66 40 = 0 ∧ t'.1 66 40 = 6 ∧ t'.1 66 41 = tok)) → R 0 t') (hC : s.1 66 47 ≠ 4 → ∀ u : Int, u = s.2.1 90 r.toNat → ∀ K : Int → sx_S → Prop, (∀ z t, PB z t → K z t) → CALL 171 [.inr (.inl 66), .inl u] s K) (hQ : ∀ z t, PB z t → Q 32 [(0, .inr (.inl 66)), (1, .inl r), (2, .inl z)] t) : sx_wp true sL sx eX12_equation CALL [(32, [0, 1, 2]), (54, [0, 1, 2, 3]), (81, [0, 1])] Q R 400 0 (sx_argsF 0 [.inr (.inl 66), .inl r]) [] s := by
  repeat' (first | (with_reducible intro _) | (refine And.intro ?_ ?_) | (refine hQ _ _ (by assumption)) | (refine hC (by first | omega | (dsimp only at *; omega) | (subst_vars; omega)) _ (by assumption) _ ?_) | (refine h_wrong _ _ _ _ ?_ ?_ ?_ ?_) | (refine hW (by first | omega | (dsimp only at *; omega) | (subst_vars; omega)) _ _ ?_ (by assumption) (by assumption) (by assumption) (by assumption) (by assumption)))
  all_goals (try dsimp only)
  repeat' (first | (with_reducible assumption) | ((with_reducible (change cx_I (sx_uf _ _ _ _, _))); refine cx_I_uf rfl rfl ?_ ?_ ?_) | ((with_reducible (change cx_I (_, sx_ua _ _ _ _, _))); refine cx_I_ua rfl rfl ?_ ?_ ?_) | ((with_reducible (change cx_I (_, sx_ua _ 16 _ _, _))); refine cx_I_ari ?_ ?_ ?_) | ((with_reducible (change cx_I (sx_uf _ 11 6 _, _))); refine cx_I_ufA rfl ?_ ?_ ?_ ?_) | (with_reducible exact cx_F_refl _ _) | ((with_reducible (change cx_F _ _ (sx_uf _ _ _ _, _))); refine cx_F_uf rfl ?_) | ((with_reducible (change cx_F _ _ (_, sx_ua _ _ _ _, _))); refine cx_F_ua rfl ?_) | ((with_reducible (change cx_I (_, sx_cpy _ _ _ _ _ _, _))); refine cx_I_cpy rfl rfl rfl (by decide) ?_) | ((with_reducible (change cx_F _ _ (_, sx_cpy _ _ _ _ _ _, _))); refine cx_F_cpy rfl ?_) | ((with_reducible (change cx_F _ _ _)); refine cx_F_step (by assumption) rfl ?_) | ((with_reducible (change rf_f _ _ (sx_uf _ 66 _ _, _))); refine rf_f_uf rfl ?_) | ((with_reducible (change rf_f _ _ _)); exact (fun _ _ => rfl)) | ((with_reducible (change rf_f _ _ (_, sx_ua _ _ _ _, _))); refine rf_f_ua ?_) | ((with_reducible (change rf_f _ _ _)); assumption) | ((with_reducible (change rf_f _ _ _)); refine rf_f_step (by assumption) rfl ?_) | ((with_reducible (change rf_f _ _ _)); refine rf_f_F (by assumption) rfl ?_) | ((with_reducible (change rf_A _ (sx_uf _ _ _ _, _))); refine rf_A_uf ?_) | ((with_reducible (change rf_A _ (_, sx_ua _ _ _ _, _))); refine rf_A_ua rfl ?_) | ((with_reducible (change rf_A _ _)); assumption) | ((with_reducible (change rf_A _ _)); refine rf_A_F (by assumption) rfl ?_) | fail)
  all_goals (first | trivial | assumption | omega | (dsimp only at *; omega) | (simp only [sx_uf_if, sx_ua_if, sx_w_t, true_and, and_true, and_self, and_false, false_and, if_true, if_false, reduceIte] at *; omega) | skip)
theorem w_eq_32 {CALL : sx_Ca} {sL : Nat} {sx : Nat → Int32} {Q : Nat → sx_L → sx_S → Prop} {R : Int → sx_S → Prop} {s : sx_S} {r x2 : Int} {PB : Int → sx_S → Prop} (hI : cx_I s) (q : 0 ≤ r ∧ r ≤ 59) (hE : s.1 66 40 ≠ 0 → Q 54 [(0, .inr (.inl 66)), (1, .inl r), (2, .inl x2), (3, .inl 0)] s) (hC : s.1 66 40 = 0 → ∀ u : Int, u = s.2.1 91 r.toNat → ∀ K : Int → sx_S → Prop, (∀ z t, PB z t → K z t) → CALL 171 [.inr (.inl 66), .inl u] s K) (hQ : ∀ z t, PB z t → Q 54 [(0, .inr (.inl 66)), (1, .inl r), (2, .inl x2), (3, .inl z)] t) : sx_wp true sL sx eX12_equation CALL [(32, [0, 1, 2]), (54, [0, 1, 2, 3]), (81, [0, 1])] Q R 400 32 [(0, .inr (.inl 66)), (1, .inl r), (2, .inl x2)] [] s := by
  repeat' (first | (with_reducible intro _) | (refine And.intro ?_ ?_) | (refine hE (by first | omega | (dsimp only at *; omega) | (subst_vars; omega))) | (refine hQ _ _ (by assumption)) | (refine hC (by first | omega | (dsimp only at *; omega) | (subst_vars; omega)) _ (by assumption) _ ?_))
  all_goals (try dsimp only)
  repeat' (first | (with_reducible assumption) | ((with_reducible (change cx_I (sx_uf _ _ _ _, _))); refine cx_I_uf rfl rfl ?_ ?_ ?_) | ((with_reducible (change cx_I (_, sx_ua _ _ _ _, _))); refine cx_I_ua rfl rfl ?_ ?_ ?_) | ((with_reducible (change cx_I (_, sx_ua _ 16 _ _, _))); refine cx_I_ari ?_ ?_ ?_) | ((with_reducible (change cx_I (sx_uf _ 11 6 _, _))); refine cx_I_ufA rfl ?_ ?_ ?_ ?_) | (with_reducible exact cx_F_refl _ _) | ((with_reducible (change cx_F _ _ (sx_uf _ _ _ _, _))); refine cx_F_uf rfl ?_) | ((with_reducible (change cx_F _ _ (_, sx_ua _ _ _ _, _))); refine cx_F_ua rfl ?_) | ((with_reducible (change cx_I (_, sx_cpy _ _ _ _ _ _, _))); refine cx_I_cpy rfl rfl rfl (by decide) ?_) | ((with_reducible (change cx_F _ _ (_, sx_cpy _ _ _ _ _ _, _))); refine cx_F_cpy rfl ?_) | ((with_reducible (change cx_F _ _ _)); refine cx_F_step (by assumption) rfl ?_) | ((with_reducible (change rf_f _ _ (sx_uf _ 66 _ _, _))); refine rf_f_uf rfl ?_) | ((with_reducible (change rf_f _ _ _)); exact (fun _ _ => rfl)) | ((with_reducible (change rf_f _ _ (_, sx_ua _ _ _ _, _))); refine rf_f_ua ?_) | ((with_reducible (change rf_f _ _ _)); assumption) | ((with_reducible (change rf_f _ _ _)); refine rf_f_step (by assumption) rfl ?_) | ((with_reducible (change rf_f _ _ _)); refine rf_f_F (by assumption) rfl ?_) | ((with_reducible (change rf_A _ (sx_uf _ _ _ _, _))); refine rf_A_uf ?_) | ((with_reducible (change rf_A _ (_, sx_ua _ _ _ _, _))); refine rf_A_ua rfl ?_) | ((with_reducible (change rf_A _ _)); assumption) | ((with_reducible (change rf_A _ _)); refine rf_A_F (by assumption) rfl ?_) | fail)
  all_goals (first | trivial | assumption | omega | (dsimp only at *; omega) | (simp only [sx_uf_if, sx_ua_if, sx_w_t, true_and, and_true, and_self, and_false, false_and, if_true, if_false, reduceIte] at *; omega) | skip)
theorem w_eq_81 {CALL : sx_Ca} {sL : Nat} {sx : Nat → Int32} {Q : Nat → sx_L → sx_S → Prop} {R : Int → sx_S → Prop} {s : sx_S} {r : Int} {PB : Int → sx_S → Prop} {PC : Int → Int → sx_S → sx_S → Int → sx_S → Prop} (hI : cx_I s) (q : 0 ≤ r ∧ r ≤ 59) (hK0 : s.1 66 40 ≠ 0 → R 0 s) (hB : s.1 66 40 = 0 → ∀ u : Int, u = s.2.1 90 r.toNat → ∀ K : Int → sx_S → Prop, (∀ z t, PB z t → K z t) → CALL 182 [.inr (.inl 66), .inl u] s K) (hIB : ∀ z t, PB z t → cx_I t ∧ (0 ≤ z ∧ z ≤ 59999) ∧ t.1 66 47 = s.1 66 47 ∧ (0 ≤ s.1 66 47 ∧ s.1 66 47 ≤ 3)) (hB2 : ∀ (z : Int) (t : sx_S), PB z t → ∀ e1 u : Int, e1 = s.1 66 47 → u = t.2.1 91 r.toNat → ∀ K : Int → sx_S → Prop, (∀ z2 t2, PC z e1 t (t.1, sx_ua t.2.1 98 e1.toNat z, t.2.2) z2 t2 → K z2 t2) → CALL 182 [.inr (.inl 66), .inl u] (t.1, sx_ua t.2.1 98 e1.toNat z, t.2.2) K) (hIC : ∀ z e1 t t1 z2 t2, PC z e1 t t1 z2 t2 → cx_I t2 ∧ (0 ≤ z2 ∧ z2 ≤ 59999) ∧ t2.1 66 47 = s.1 66 47) (hK : ∀ (z e1 : Int) (t : sx_S) (z2 : Int) (t2 : sx_S), PB z t → PC z e1 t (t.1, sx_ua t.2.1 98 e1.toNat z, t.2.2) z2 t2 → ∀ e2 w : Int, e2 = s.1 66 47 → w = s.1 66 47 + 1 → R 0 (sx_uf t2.1 66 47 w, sx_ua t2.2.1 99 e2.toNat z2, t2.2.2)) : sx_wp true sL sx eX12_equation CALL [(32, [0, 1, 2]), (54, [0, 1, 2, 3]), (81, [0, 1])] Q R 400 81 [(0, .inr (.inl 66)), (1, .inl r)] [] s := by
  repeat' (first | (with_reducible intro _) | (refine And.intro ?_ ?_) | (refine hK0 (by first | omega | (dsimp only at *; omega) | (subst_vars; omega))) | (refine hK _ _ _ _ _ (by assumption) (by assumption) _ _ ?_ ?_) | (refine hB (by first | omega | (dsimp only at *; omega) | (subst_vars; omega)) _ (by assumption) _ ?_) | (refine hB2 _ _ (by assumption) _ _ ?_ ?_ _ ?_))
  all_goals (try dsimp only)
  all_goals (first | trivial | assumption | omega | (dsimp only at *; omega) | (have hzz := hIB _ _ (by assumption); obtain ⟨z1, z2, z3, z4⟩ := hzz; first | assumption | omega | (dsimp only at *; omega) | (exact cx_I_ua rfl rfl z1 (by omega) (by omega)) | (have hyy := hIC _ _ _ _ _ _ (by assumption); obtain ⟨y1, y2, y3⟩ := hyy; first | assumption | omega | (dsimp only at *; omega) | (exact cx_I_ua rfl rfl y1 (by omega) (by omega)) | (simp only [sx_uf_if, sx_ua_if, sx_w_t, true_and, and_true, and_self, and_false, false_and, if_true, if_false, reduceIte] at *; omega))) | skip)
end
section
/-! ===== the reference: equation ===== -/
/-- a side of an equation, built -/
def rf_EQ (s : sx_S) (z : Int) (x : rf_T) : Prop := ∃ N, rf_no s N z ∧ (rf_gt (rf_H s) rf_P N).1 x ∧ (rf_sc (rf_G s) N).1 [] ∧ (rf_wh N).1 ≤ 200
def rf_ES (s : sx_S) : Prop := ∀ e : Nat, (e : Int) < s.1 66 47 → ∃ x, rf_EQ s (s.2.1 98 e) x ∧ rf_EQ s (s.2.1 99 e) x
theorem rf_EQ_up {s t : sx_S} (ha : rf_ag 100 103 (s.1 66 50) s t) (hx : rf_xu s t) {z : Int} {x : rf_T} (h : rf_EQ s z x) : rf_EQ t z x := by
  obtain ⟨N, h1, h2, h3, h4⟩ := h
  exact ⟨N, rf_no_up ha (hx.2 0).1.2.2.1 h1, (rf_gt_up hx h1).1 _ h2, (rf_sc_up hx h1).1 _ h3, h4⟩
theorem rf_ES_up {s t : sx_S} (ha : rf_ag 100 103 (s.1 66 50) s t) (hx : rf_xu s t) (h47 : t.1 66 47 = s.1 66 47) (h98 : t.2.1 98 = s.2.1 98) (h99 : t.2.1 99 = s.2.1 99) (h : rf_ES s) : rf_ES t := by
  intro e he
  obtain ⟨x, h1, h2⟩ := h e (by omega)
  rw [h98, h99]
  exact ⟨x, rf_EQ_up ha hx h1, rf_EQ_up ha hx h2⟩
theorem rf_nd_len {l : List Nat} {lo hi : Nat} (hn : l.Nodup) (h : ∀ j ∈ l, lo ≤ j ∧ j < hi) : l.length ≤ hi - lo := by
  have h1 := rf_lsum_le (fun j => if lo ≤ j then 1 else 0) hi l hn (fun j hj => (h j hj).2)
  have h2 : ∀ l : List Nat, (∀ j ∈ l, lo ≤ j) → rf_lsum (fun j => if lo ≤ j then 1 else 0) l = l.length := by
    intro l
    induction l with
    | nil => exact fun _ => rfl
    | cons a l ih =>
      intro q
      show (if lo ≤ a then 1 else 0) + rf_lsum _ l = l.length + 1
      rw [ih (fun j hj => q j (List.mem_cons_of_mem _ hj)), if_pos (q a List.mem_cons_self)]
      omega
  have h3 : ∀ n, rf_sum (fun j => if lo ≤ j then 1 else 0) n = n - lo := by
    intro n
    induction n with
    | zero => exact (Nat.zero_sub _).symm
    | succ n ih =>
      show rf_sum _ n + (if lo ≤ n then 1 else 0) = _
      rw [ih]
      split <;> omega
  rw [h2 l (fun j hj => (h j hj).1), h3] at h1
  exact h1
theorem rf_tr_len {n : rf_N} {lo hi : Int} (h0 : 0 ≤ lo) (hn : (rf_idx n).Nodup) (h : ∀ j ∈ rf_idx n, lo ≤ (j : Int) ∧ (j : Int) < hi) : (rf_s1 n : Int) ≤ hi - lo ∨ (rf_s1 n = 0) := by
  have h1 := rf_nd_len (lo := lo.toNat) (hi := hi.toNat) hn (fun j hj => by have := h j hj; omega)
  have h2 := rf_s1_le (f := n)
  cases n with
  | leaf => exact Or.inr rfl
  | inner j k u f x =>
    refine Or.inl ?_
    have := h j List.mem_cons_self
    omega
theorem rf_hx_gt {s : sx_S} : ∀ {m : rf_N} {x : rf_T}, (rf_gt (rf_RH s) (rf_RP s) m).1 x → rf_hx x ≤ (rf_ht m).1 + 5
  | .leaf, _, h => h.elim
  | .inner j k u f y, x, h => by
    rcases h with ⟨h1, A, B, h2, h3, h4⟩ | ⟨h1, U, h2, h3, _⟩
    · have a1 := rf_hx_gt h4
      have a2 := rf_hx_at A
      have a3 := h3.1
      rw [rf_ht_0 h1, h2]
      show max (rf_hx A) (rf_hx B) + 1 ≤ _
      omega
    · have a1 := rf_gt_at h3
      have a2 := rf_hx_at x
      have a3 := h2.1
      omega
/-- what an equation leaves as it was -/
def rf_FQ (s t : sx_S) : Prop := (∀ p, cx_out [(66, 66), (72, 73), (82, 84), (93, 94), (98, 106)] p → t.1 p = s.1 p ∧ t.2.1 p = s.2.1 p) ∧ rf_f [9, 40, 41, 47, 50, 56, 58] s t ∧ rf_xu s t ∧ rf_ag 100 103 (s.1 66 50) s t ∧ s.2.2.2 ≤ t.2.2.2
theorem rf_FQ_C {s t : sx_S} {S : List Nat} (h : rf_FC s t S) : rf_FQ s t := by
  obtain ⟨a1, a2, a3, a4, a5, a6, a7, a8⟩ := h
  exact ⟨fun p hp => a1 p (cx_le_ok (W := [(66, 66), (72, 73), (82, 84), (93, 94), (98, 106)]) rfl hp), rf_f_step a2 rfl (rf_f_refl _ _), a3, a6, a8⟩
theorem rf_FQ_trans {s t u : sx_S} (h2 : rf_FQ t u) (h1 : rf_FQ s t) : rf_FQ s u := by
  obtain ⟨a1, a2, a3, a4, a5⟩ := h1
  obtain ⟨b1, b2, b3, b4, b5⟩ := h2
  exact ⟨fun p hp => ⟨(b1 p hp).1.trans (a1 p hp).1, (b1 p hp).2.trans (a1 p hp).2⟩, rf_f_step b2 rfl a2, rf_xu_trans b3 a3, rf_ag_trans b4 (a3.2 0).1.2.2.1 a4, Nat.le_trans a5 b5⟩
theorem rf_FQ_98 {s : sx_S} {p n : Nat} {v : Int} (hp : p = 98 ∨ p = 99) : rf_FQ s (s.1, sx_ua s.2.1 p n v, s.2.2) := by
  have e : ∀ q, q ≠ p → sx_ua s.2.1 p n v q = s.2.1 q := fun q hq => sx_ua_ne hq
  refine ⟨fun q hq => ⟨rfl, e q ?_⟩, rf_f_refl _ _, rf_xu_arr rfl (fun q hq => e q (by omega)), fun q j h1 h2 _ => ?_, Nat.le_refl _⟩
  · have := hq (98, 106) (by simp)
    dsimp only at this
    omega
  · dsimp only
    rw [e q (by omega)]
theorem rf_FQ_47 {s : sx_S} {w : Int} : rf_FQ s (sx_uf s.1 66 47 w, s.2) := by
  have e : ∀ q, q ≠ 47 → sx_uf s.1 66 47 w 66 q = s.1 66 q := fun q hq => by
    rw [sx_uf_if]
    exact if_neg (fun c => hq c.2)
  refine ⟨fun p hp => ⟨?_, rfl⟩, rf_f_uf rfl (F := s.1) (B := s.2) (rf_f_refl _ _), ⟨fun j => ?_, fun j => ?_⟩, rf_ag_refl _ _ _ _, Nat.le_refl _⟩
  · have := hp (66, 66) (by simp)
    dsimp only at this
    show sx_uf s.1 66 47 w p = _
    rw [sx_fv_ne (by omega)]
  · dsimp only
    rw [e 9 (by decide)]
    exact ⟨Int.le_refl _, fun _ => ⟨rfl, rfl⟩⟩
  · dsimp only
    rw [e 58 (by decide), e 56 (by decide), e 50 (by decide), e 42 (by decide), e 45 (by decide)]
    exact ⟨⟨Int.le_refl _, Int.le_refl _, Int.le_refl _, rfl, rfl⟩, fun _ => rfl, fun _ => rfl, fun _ => rfl, rfl, rfl⟩
theorem rf_ym_arr {s t : sx_S} {n : rf_N} {i : Int} (h12 : t.1 66 12 = s.1 66 12) (ha : ∀ p, (p = 74 ∨ p = 80 ∨ p = 81 ∨ p = 82 ∨ p = 83) → t.2.1 p = s.2.1 p) (g : rf_ym s n i) : rf_ym t n i := by
  refine rf_nd_mono (Int.le_of_eq h12.symm) (fun j _ => ⟨rf_rk_eq (by rw [ha 74 (by decide)]) (by rw [ha 83 (by decide)]), by rw [ha 82 (by decide)], by rw [ha 80 (by decide)], by rw [ha 81 (by decide)]⟩) g
end
section
/-! ===== the reference: load, piece by piece ===== -/
theorem w_load {CALL : sx_Ca} {sL : Nat} {sx : Nat → Int32} {Q : Nat → sx_L → sx_S → Prop} {R : Int → sx_S → Prop} {s : sx_S} {a0 : Int} (hI : cx_I s) (p0 : -2147483648 ≤ a0 ∧ a0 ≤ 2147483647) (hK : (a0 < 0 ∨ s.1 66 1 < a0) → R (-1) s) (hQ : 0 ≤ a0 → a0 ≤ s.1 66 1 → Q 21 [(0, .inr (.inl 66)), (1, .inl a0), (2, .inl 0)] (sx_uf s.1 66 3 a0, s.2)) : sx_wp true sL sx eX12_load CALL [(21, [0, 1, 2]), (44, [0, 1]), (114, [0]), (118, [0]), (122, [0]), (152, [0, 2]), (190, [0, 2]), (196, [0])] Q R 400 0 (sx_argsF 0 [.inr (.inl 66), .inl a0]) [] s := by
  repeat' (first | (with_reducible intro _) | (refine And.intro ?_ ?_) | (refine hK ?_) | (refine hQ ?_ ?_))
  all_goals (try dsimp only)
  all_goals (first | trivial | assumption | omega | (dsimp only at *; omega) | (simp only [sx_w_t] at *; omega) | (subst_vars; omega) | (subst_vars; assumption) | (subst_vars; dsimp only at *; omega) | (subst_vars; dsimp only at *; simp only [sx_w_t] at *; omega) | skip)
theorem w_load_21 {CALL : sx_Ca} {sL : Nat} {sx : Nat → Int32} {Q : Nat → sx_L → sx_S → Prop} {R : Int → sx_S → Prop} {s : sx_S} {a0 x2 : Int} (hI : cx_I s) (p0 : 0 ≤ a0 ∧ a0 ≤ 240) (p2 : 0 ≤ x2 ∧ x2 ≤ a0) (hE : a0 ≤ x2 → Q 44 [(0, .inr (.inl 66)), (1, .inl a0)] s) (hQ : x2 < a0 → ∀ v y : Int, v = s.2.1 67 x2.toNat → y = x2 + 1 → Q 21 [(0, .inr (.inl 66)), (1, .inl a0), (2, .inl y)] (s.1, sx_ua s.2.1 68 x2.toNat v, s.2.2)) : sx_wp true sL sx eX12_load CALL [(21, [0, 1, 2]), (44, [0, 1]), (114, [0]), (118, [0]), (122, [0]), (152, [0, 2]), (190, [0, 2]), (196, [0])] Q R 400 21 [(0, .inr (.inl 66)), (1, .inl a0), (2, .inl x2)] [] s := by
  repeat' (first | (with_reducible intro _) | (refine And.intro ?_ ?_) | (refine hE ?_) | (refine hQ ?_ _ _ ?_ ?_))
  all_goals (try dsimp only)
  all_goals (first | trivial | assumption | omega | (dsimp only at *; omega) | (simp only [sx_w_t] at *; omega) | (subst_vars; omega) | (subst_vars; assumption) | (subst_vars; dsimp only at *; omega) | (subst_vars; dsimp only at *; simp only [sx_w_t] at *; omega) | skip)
theorem w_load_44 {CALL : sx_Ca} {sL : Nat} {sx : Nat → Int32} {Q : Nat → sx_L → sx_S → Prop} {R : Int → sx_S → Prop} {s : sx_S} {a0 : Int} (hQ : Q 114 [(0, .inr (.inl 66))] (sx_uf (sx_uf (sx_uf (sx_uf (sx_uf (sx_uf (sx_uf (sx_uf (sx_uf (sx_uf (sx_uf (sx_uf (sx_uf (sx_uf s.1 66 1 0) 66 9 2) 66 12 0) 66 24 0) 66 34 0) 66 42 0) 66 45 0) 66 47 0) 66 50 0) 66 56 0) 66 58 1) 66 40 0) 66 37 0) 66 78 0, s.2)) : sx_wp true sL sx eX12_load CALL [(21, [0, 1, 2]), (44, [0, 1]), (114, [0]), (118, [0]), (122, [0]), (152, [0, 2]), (190, [0, 2]), (196, [0])] Q R 400 44 [(0, .inr (.inl 66)), (1, .inl a0)] [] s := by
  repeat' (first | (with_reducible intro _) | (refine And.intro ?_ ?_) | (exact hQ))
  all_goals (try dsimp only)
  all_goals (first | trivial | assumption | omega | (dsimp only at *; omega) | (simp only [sx_w_t] at *; omega) | (subst_vars; omega) | (subst_vars; assumption) | (subst_vars; dsimp only at *; omega) | (subst_vars; dsimp only at *; simp only [sx_w_t] at *; omega) | skip)
theorem w_load_114 {CALL : sx_Ca} {sL : Nat} {sx : Nat → Int32} {Q : Nat → sx_L → sx_S → Prop} {R : Int → sx_S → Prop} {s : sx_S} {PC : sx_S → Prop} (hC : ∀ K : Int → sx_S → Prop, (∀ z t, PC t → K z t) → CALL 156 [.inr (.inl 66)] s K) (hQ : ∀ t, PC t → Q 118 [(0, .inr (.inl 66))] t) : sx_wp true sL sx eX12_load CALL [(21, [0, 1, 2]), (44, [0, 1]), (114, [0]), (118, [0]), (122, [0]), (152, [0, 2]), (190, [0, 2]), (196, [0])] Q R 400 114 [(0, .inr (.inl 66))] [] s := by
  repeat' (first | (with_reducible intro _) | (refine And.intro ?_ ?_) | (refine hQ _ (by assumption)) | (refine hC _ ?_))
  all_goals (try dsimp only)
  all_goals (first | trivial | assumption | omega | (dsimp only at *; omega) | (simp only [sx_w_t] at *; omega) | (subst_vars; omega) | (subst_vars; assumption) | (subst_vars; dsimp only at *; omega) | (subst_vars; dsimp only at *; simp only [sx_w_t] at *; omega) | skip)
theorem w_load_118 {CALL : sx_Ca} {sL : Nat} {sx : Nat → Int32} {Q : Nat → sx_L → sx_S → Prop} {R : Int → sx_S → Prop} {s : sx_S} {PC : sx_S → Prop} (hC : ∀ K : Int → sx_S → Prop, (∀ z t, PC t → K z t) → CALL 164 [.inr (.inl 66)] s K) (hQ : ∀ t, PC t → Q 122 [(0, .inr (.inl 66))] t) : sx_wp true sL sx eX12_load CALL [(21, [0, 1, 2]), (44, [0, 1]), (114, [0]), (118, [0]), (122, [0]), (152, [0, 2]), (190, [0, 2]), (196, [0])] Q R 400 118 [(0, .inr (.inl 66))] [] s := by
  repeat' (first | (with_reducible intro _) | (refine And.intro ?_ ?_) | (refine hQ _ (by assumption)) | (refine hC _ ?_))
  all_goals (try dsimp only)
  all_goals (first | trivial | assumption | omega | (dsimp only at *; omega) | (simp only [sx_w_t] at *; omega) | (subst_vars; omega) | (subst_vars; assumption) | (subst_vars; dsimp only at *; omega) | (subst_vars; dsimp only at *; simp only [sx_w_t] at *; omega) | skip)
theorem w_load_122 {CALL : sx_Ca} {sL : Nat} {sx : Nat → Int32} {Q : Nat → sx_L → sx_S → Prop} {R : Int → sx_S → Prop} {s : sx_S} (hI : cx_I s) (h7 : 0 ≤ s.1 66 7 ∧ s.1 66 7 ≤ 241) (hK : s.1 66 8 ≠ 0 → ∀ v : Int, 0 ≤ v → v ≤ 240 → R (-2) (sx_uf (sx_uf s.1 66 38 v) 66 39 0, s.2)) (hQ : s.1 66 8 = 0 → Q 152 [(0, .inr (.inl 66)), (2, .inl 0)] s) : sx_wp true sL sx eX12_load CALL [(21, [0, 1, 2]), (44, [0, 1]), (114, [0]), (118, [0]), (122, [0]), (152, [0, 2]), (190, [0, 2]), (196, [0])] Q R 400 122 [(0, .inr (.inl 66))] [] s := by
  have hfin : ∀ v : Int, -2147483648 ≤ v → v ≤ 2147483647 → cx_I (sx_uf s.1 66 38 v, s.2) := fun v h1 h2 => cx_I_uf rfl rfl hI h1 h2
  repeat' (first | (with_reducible intro _) | (refine And.intro ?_ ?_) | (refine hK ?_ _ ?_ ?_) | (refine hQ ?_))
  all_goals (try dsimp only)
  repeat' (first | (with_reducible assumption) | ((with_reducible (change cx_I (sx_uf _ _ _ _, _))); refine cx_I_uf rfl rfl ?_ ?_ ?_) | ((with_reducible (change cx_I (_, sx_ua _ _ _ _, _))); refine cx_I_ua rfl rfl ?_ ?_ ?_) | ((with_reducible (change cx_I (_, sx_ua _ 16 _ _, _))); refine cx_I_ari ?_ ?_ ?_) | ((with_reducible (change cx_I (sx_uf _ 11 6 _, _))); refine cx_I_ufA rfl ?_ ?_ ?_ ?_) | (with_reducible exact cx_F_refl _ _) | ((with_reducible (change cx_F _ _ (sx_uf _ _ _ _, _))); refine cx_F_uf rfl ?_) | ((with_reducible (change cx_F _ _ (_, sx_ua _ _ _ _, _))); refine cx_F_ua rfl ?_) | ((with_reducible (change cx_I (_, sx_cpy _ _ _ _ _ _, _))); refine cx_I_cpy rfl rfl rfl (by decide) ?_) | ((with_reducible (change cx_F _ _ (_, sx_cpy _ _ _ _ _ _, _))); refine cx_F_cpy rfl ?_) | ((with_reducible (change cx_F _ _ _)); refine cx_F_step (by assumption) rfl ?_) | ((with_reducible (change rf_f _ _ (sx_uf _ 66 _ _, _))); refine rf_f_uf rfl ?_) | ((with_reducible (change rf_f _ _ _)); exact (fun _ _ => rfl)) | ((with_reducible (change rf_f _ _ (_, sx_ua _ _ _ _, _))); refine rf_f_ua ?_) | ((with_reducible (change rf_f _ _ _)); assumption) | ((with_reducible (change rf_f _ _ _)); refine rf_f_step (by assumption) rfl ?_) | ((with_reducible (change rf_f _ _ _)); refine rf_f_F (by assumption) rfl ?_) | fail)
  all_goals (first | trivial | assumption | omega | (dsimp only at *; omega) | (simp only [sx_w_t] at *; omega) | (subst_vars; omega) | (subst_vars; assumption) | (subst_vars; dsimp only at *; omega) | (subst_vars; dsimp only at *; simp only [sx_w_t] at *; omega) | (simp only [sx_uf_if, sx_ua_if, sx_w_t, true_and, and_true, and_self, and_false, false_and, if_true, if_false, reduceIte] at *; omega) | (subst_vars; simp only [sx_uf_if, sx_ua_if, sx_w_t, true_and, and_true, and_self, and_false, false_and, if_true, if_false, reduceIte] at *; omega) | skip)
theorem w_load_152 {CALL : sx_Ca} {sL : Nat} {sx : Nat → Int32} {Q : Nat → sx_L → sx_S → Prop} {R : Int → sx_S → Prop} {s : sx_S} {x2 : Int} {PE PD : sx_S → Prop} (hI : cx_I s) (p2 : 0 ≤ x2 ∧ x2 ≤ 60) (hE : (s.1 66 24 ≤ x2 ∨ s.1 66 40 ≠ 0) → Q 196 [(0, .inr (.inl 66))] s) (hC : x2 < s.1 66 24 → s.1 66 40 = 0 → s.2.1 85 x2.toNat = 4 → ∀ K : Int → sx_S → Prop, (∀ z t, PE t → K z t) → CALL 174 [.inr (.inl 66), .inl x2] s K) (hD : x2 < s.1 66 24 → s.1 66 40 = 0 → s.2.1 85 x2.toNat ≠ 4 → ∀ K : Int → sx_S → Prop, (∀ z t, PD t → K z t) → CALL 173 [.inr (.inl 66), .inl x2] s K) (hQ1 : ∀ t, PE t → Q 190 [(0, .inr (.inl 66)), (2, .inl x2)] t) (hQ2 : ∀ t, PD t → Q 190 [(0, .inr (.inl 66)), (2, .inl x2)] t) : sx_wp true sL sx eX12_load CALL [(21, [0, 1, 2]), (44, [0, 1]), (114, [0]), (118, [0]), (122, [0]), (152, [0, 2]), (190, [0, 2]), (196, [0])] Q R 400 152 [(0, .inr (.inl 66)), (2, .inl x2)] [] s := by
  have h24 := hI.fld 66 24 (by decide) rfl
  repeat' (first | (with_reducible intro _) | (refine And.intro ?_ ?_) | (refine hE ?_) | (refine hQ1 _ (by assumption)) | (refine hQ2 _ (by assumption)) | (refine hC ?_ ?_ ?_ _ ?_) | (refine hD ?_ ?_ ?_ _ ?_))
  all_goals (try dsimp only)
  all_goals (first | trivial | assumption | omega | (dsimp only at *; omega) | (simp only [sx_w_t] at *; omega) | (subst_vars; omega) | (subst_vars; assumption) | (subst_vars; dsimp only at *; omega) | (subst_vars; dsimp only at *; simp only [sx_w_t] at *; omega) | skip)
theorem w_load_190 {CALL : sx_Ca} {sL : Nat} {sx : Nat → Int32} {Q : Nat → sx_L → sx_S → Prop} {R : Int → sx_S → Prop} {s : sx_S} {x2 : Int} (p2 : 0 ≤ x2 ∧ x2 ≤ 60) (hQ : ∀ y : Int, y = x2 + 1 → Q 152 [(0, .inr (.inl 66)), (2, .inl y)] s) : sx_wp true sL sx eX12_load CALL [(21, [0, 1, 2]), (44, [0, 1]), (114, [0]), (118, [0]), (122, [0]), (152, [0, 2]), (190, [0, 2]), (196, [0])] Q R 400 190 [(0, .inr (.inl 66)), (2, .inl x2)] [] s := by
  repeat' (first | (with_reducible intro _) | (refine And.intro ?_ ?_) | (refine hQ _ ?_))
  all_goals (try dsimp only)
  all_goals (first | trivial | assumption | omega | (dsimp only at *; omega) | (simp only [sx_w_t] at *; omega) | (subst_vars; omega) | (subst_vars; assumption) | (subst_vars; dsimp only at *; omega) | (subst_vars; dsimp only at *; simp only [sx_w_t] at *; omega) | skip)
theorem w_load_196 {CALL : sx_Ca} {sL : Nat} {sx : Nat → Int32} {Q : Nat → sx_L → sx_S → Prop} {R : Int → sx_S → Prop} {s : sx_S} (hI : cx_I s) (h41 : s.1 66 40 ≠ 0 → 0 ≤ s.1 66 41 ∧ s.1 66 41 ≤ 241) (hK : s.1 66 40 ≠ 0 → ∀ v w : Int, 0 ≤ v → v ≤ 240 → -2147483648 ≤ w → w ≤ 2147483647 → R (-3) (sx_uf (sx_uf s.1 66 38 v) 66 39 w, s.2)) (hK0 : s.1 66 40 = 0 → ∀ a b c : Int, a = s.1 66 50 → b = s.1 66 56 → c = s.1 66 58 → R 0 (sx_uf (sx_uf (sx_uf (sx_uf (sx_uf (sx_uf s.1 66 38 (-1)) 66 39 (-1)) 66 37 1) 66 75 a) 66 76 b) 66 77 c, s.2)) : sx_wp true sL sx eX12_load CALL [(21, [0, 1, 2]), (44, [0, 1]), (114, [0]), (118, [0]), (122, [0]), (152, [0, 2]), (190, [0, 2]), (196, [0])] Q R 400 196 [(0, .inr (.inl 66))] [] s := by
  have r50 := hI.fld 66 50 (by decide) rfl
  have r56 := hI.fld 66 56 (by decide) rfl
  have r58 := hI.fld 66 58 (by decide) rfl
  repeat' (first | (with_reducible intro _) | (refine And.intro ?_ ?_) | (refine hK ?_ _ _ ?_ ?_ ?_ ?_) | (refine hK0 ?_ _ _ _ ?_ ?_ ?_))
  all_goals (try dsimp only)
  repeat' (first | (with_reducible assumption) | ((with_reducible (change cx_I (sx_uf _ _ _ _, _))); refine cx_I_uf rfl rfl ?_ ?_ ?_) | ((with_reducible (change cx_I (_, sx_ua _ _ _ _, _))); refine cx_I_ua rfl rfl ?_ ?_ ?_) | ((with_reducible (change cx_I (_, sx_ua _ 16 _ _, _))); refine cx_I_ari ?_ ?_ ?_) | ((with_reducible (change cx_I (sx_uf _ 11 6 _, _))); refine cx_I_ufA rfl ?_ ?_ ?_ ?_) | (with_reducible exact cx_F_refl _ _) | ((with_reducible (change cx_F _ _ (sx_uf _ _ _ _, _))); refine cx_F_uf rfl ?_) | ((with_reducible (change cx_F _ _ (_, sx_ua _ _ _ _, _))); refine cx_F_ua rfl ?_) | ((with_reducible (change cx_I (_, sx_cpy _ _ _ _ _ _, _))); refine cx_I_cpy rfl rfl rfl (by decide) ?_) | ((with_reducible (change cx_F _ _ (_, sx_cpy _ _ _ _ _ _, _))); refine cx_F_cpy rfl ?_) | ((with_reducible (change cx_F _ _ _)); refine cx_F_step (by assumption) rfl ?_) | ((with_reducible (change rf_f _ _ (sx_uf _ 66 _ _, _))); refine rf_f_uf rfl ?_) | ((with_reducible (change rf_f _ _ _)); exact (fun _ _ => rfl)) | ((with_reducible (change rf_f _ _ (_, sx_ua _ _ _ _, _))); refine rf_f_ua ?_) | ((with_reducible (change rf_f _ _ _)); assumption) | ((with_reducible (change rf_f _ _ _)); refine rf_f_step (by assumption) rfl ?_) | ((with_reducible (change rf_f _ _ _)); refine rf_f_F (by assumption) rfl ?_) | fail)
  all_goals (first | trivial | assumption | omega | (dsimp only at *; omega) | (simp only [sx_w_t] at *; omega) | (subst_vars; omega) | (subst_vars; assumption) | (subst_vars; dsimp only at *; omega) | (subst_vars; dsimp only at *; simp only [sx_w_t] at *; omega) | (simp only [sx_uf_if, sx_ua_if, sx_w_t, true_and, and_true, and_self, and_false, false_and, if_true, if_false, reduceIte] at *; omega) | (subst_vars; simp only [sx_uf_if, sx_ua_if, sx_w_t, true_and, and_true, and_self, and_false, false_and, if_true, if_false, reduceIte] at *; omega) | skip)
end
section
/-! ===== the reference: load ===== -/
/-- the state with what was loaded alone -/
def rf_l0 (s : sx_S) : sx_S := (sx_uf (sx_uf (sx_uf s.1 66 50 (s.1 66 75)) 66 56 (s.1 66 76)) 66 58 (s.1 66 77), s.2)
theorem rf_l0_f {s : sx_S} : (rf_l0 s).1 66 50 = s.1 66 75 ∧ (rf_l0 s).1 66 56 = s.1 66 76 ∧ (rf_l0 s).1 66 58 = s.1 66 77 ∧ (∀ k, k ≠ 50 → k ≠ 56 → k ≠ 58 → (rf_l0 s).1 66 k = s.1 66 k) ∧ (rf_l0 s).2 = s.2 := by
  refine ⟨?_, ?_, ?_, fun k h1 h2 h3 => ?_, rfl⟩
  · unfold rf_l0
    dsimp only
    rw [sx_uf_if, if_neg (by decide), sx_uf_if, if_neg (by decide), sx_uf_if, if_pos ⟨rfl, rfl⟩]
  · unfold rf_l0
    dsimp only
    rw [sx_uf_if, if_neg (by decide), sx_uf_if, if_pos ⟨rfl, rfl⟩]
  · unfold rf_l0
    dsimp only
    rw [sx_uf_if, if_pos ⟨rfl, rfl⟩]
  · unfold rf_l0
    dsimp only
    rw [sx_uf_if, if_neg (fun c => h3 c.2), sx_uf_if, if_neg (fun c => h2 c.2), sx_uf_if, if_neg (fun c => h1 c.2)]
def rf_LD (s : sx_S) : Prop := (rf_ES (rf_l0 s) ∧ rf_CK (rf_l0 s)) ∧ (0 ≤ s.1 66 75 ∧ s.1 66 75 ≤ 22000) ∧ (0 ≤ s.1 66 76 ∧ s.1 66 76 ≤ 11000) ∧ (1 ≤ s.1 66 77 ∧ s.1 66 77 ≤ 11000) ∧ (2 ≤ s.1 66 9 ∧ s.1 66 9 ≤ 6000) ∧ (s.1 66 75 ≤ s.1 66 50 ∧ s.1 66 76 ≤ s.1 66 56 ∧ s.1 66 77 ≤ s.1 66 58) ∧ s.1 66 34 = 0
/-- the desk's own cells -/
def rf_dk (s t : sx_S) : Prop := ∀ p, p < 66 → t.1 p = s.1 p ∧ t.2.1 p = s.2.1 p
theorem rf_dk_refl (s : sx_S) : rf_dk s s := fun _ _ => ⟨rfl, rfl⟩
theorem rf_dk_trans {s t u : sx_S} (h2 : rf_dk t u) (h1 : rf_dk s t) : rf_dk s u := fun p hp => ⟨((h2 p hp).1).trans (h1 p hp).1, ((h2 p hp).2).trans (h1 p hp).2⟩
theorem rf_dk_F {V : List (Nat × Nat)} {s t : sx_S} (h : cx_F V s t) (hV : cx_le V [(66, 124)] = true) : rf_dk s t := fun p hp => (h p).1 (cx_le_ok hV (fun q hq => by
  have : q = (66, 124) := by simpa using hq
  rw [this]
  exact Or.inl hp))
theorem rf_dk_uf {s t : sx_S} {k : Nat} {v : Int} (h : rf_dk s t) : rf_dk s (sx_uf t.1 66 k v, t.2) := fun p hp => ⟨by
  show sx_uf t.1 66 k v p = _
  rw [sx_fv_ne (by omega)]
  exact (h p hp).1, (h p hp).2⟩
theorem rf_dk_FQ {s t : sx_S} (h : rf_FQ s t) : rf_dk s t := fun p hp => h.1 p (fun q hq => by
  simp only [List.mem_cons, List.not_mem_nil, or_false] at hq
  rcases hq with rfl | rfl | rfl | rfl | rfl <;> exact Or.inl (by omega))
theorem rf_CK_Q {s t : sx_S} (h : rf_FQ s t) (h34 : t.1 66 34 = 0) (g : rf_CK s) : rf_CK t := by
  have up : ∀ z, rf_t5 s z → rf_t5 t z := fun z ⟨y, h1, h2⟩ => ⟨y, rf_is_up h1 h.2.2.1.1, h2⟩
  intro q
  obtain ⟨c1, c2, c3⟩ := g q
  obtain ⟨⟨b1, b2, b3, b4, b5⟩, b6, b7, b8, b9, b10⟩ := h.2.2.1.2 q
  refine ⟨fun z => ?_, fun z => ?_, fun z => by omega⟩
  · rw [b9]
    exact up _ (c1 (by omega))
  · rw [b10]
    exact up _ (c2 (by omega))
/-- unknowns that are more -/
def rf_an (p : Nat → Int → Prop) : rf_N → Prop × Prop
  | .leaf => (True, True)
  | .inner j k _ f x => ((k.1 = 3 → p j k.2) ∧ (k.1 = 0 → (rf_an p f).1) ∧ (k.1 ≠ 0 → (rf_an p f).2), ((k.1 = 3 → p j k.2) ∧ (k.1 = 0 → (rf_an p f).1) ∧ (k.1 ≠ 0 → (rf_an p f).2)) ∧ (rf_an p x).2)
theorem rf_an_gt {H : Nat → Int → Int → rf_T → Prop} {P : Nat → rf_T → Prop} {p : Nat → Int → Prop} (hp : ∀ j r u, H j 3 r u → p j r) : ∀ {n : rf_N}, (∀ x, (rf_gt H P n).1 x → (rf_an p n).1) ∧ (∀ x y, (rf_gt H P n).2 x y → (rf_an p n).2)
  | .leaf => ⟨fun _ _ => trivial, fun _ _ _ => trivial⟩
  | .inner j k u f x => by
    have hf := rf_an_gt hp (P := P) (n := f)
    have hx := rf_an_gt hp (P := P) (n := x)
    have h1 : ∀ t, (rf_gt H P (.inner j k u f x)).1 t → (rf_an p (.inner j k u f x)).1 := by
      rintro t (⟨e, A, B, _, _, q3⟩ | ⟨e, w, q1, q2, _⟩)
      · exact ⟨fun q => by omega, fun _ => hf.1 _ q3, fun q => absurd e q⟩
      · refine ⟨fun q => ?_, fun q => absurd q e, fun _ => hf.2 _ _ q2⟩
        rw [q] at q1
        exact hp _ _ _ q1
    refine ⟨h1, ?_⟩
    rintro w t ⟨A, B, _, q2, q3⟩
    exact ⟨h1 A q2, hx.2 _ _ q3⟩
theorem rf_sc_an {G G' : Nat → Int → List Int → Prop} : ∀ {n : rf_N}, ((rf_an (fun j r => ∀ Γ, G j r Γ → G' j r Γ) n).1 → ∀ Γ, (rf_sc G n).1 Γ → (rf_sc G' n).1 Γ) ∧ ((rf_an (fun j r => ∀ Γ, G j r Γ → G' j r Γ) n).2 → ∀ Γ, (rf_sc G n).2 Γ → (rf_sc G' n).2 Γ)
  | .leaf => ⟨fun _ _ h => h, fun _ _ h => h⟩
  | .inner j k u f x => by
    have hf := rf_sc_an (G := G) (G' := G') (n := f)
    have hx := rf_sc_an (G := G) (G' := G') (n := x)
    have h1 : (rf_an (fun j r => ∀ Γ, G j r Γ → G' j r Γ) (.inner j k u f x)).1 → ∀ Γ, (rf_sc G (.inner j k u f x)).1 Γ → (rf_sc G' (.inner j k u f x)).1 Γ := by
      rintro ⟨a, b, c⟩ Γ (⟨q1, q2⟩ | ⟨q1, q2, q3, q4⟩)
      · exact Or.inl ⟨q1, hf.1 (b q1) _ q2⟩
      · exact Or.inr ⟨q1, q2, fun z => a z Γ (q3 z), hf.2 (c q1) _ q4⟩
    exact ⟨h1, fun ⟨a, b⟩ Γ ⟨q1, q2⟩ => ⟨h1 a Γ q1, hx.2 b Γ q2⟩⟩
/-- a declaration more -/
theorem rf_ES_D {s t : sx_S} (hF : cx_F [(66, 66), (95, 97), (123, 123)] s t) (hf : rf_f [40, 41, 42, 45] s t) (h42 : s.1 66 42 ≤ t.1 66 42 ∧ s.1 66 45 ≤ t.1 66 45) (ha : rf_ag 96 96 (s.1 66 42) s t) (hb : rf_ag 123 123 (s.1 66 45) s t) (h : rf_ES s) : rf_ES t := by
  have tis : ∀ x z, rf_is t x z ↔ rf_is s x z := fun x z => by
    unfold rf_is
    rw [(hF.same 72 rfl).2, (hF.same 73 rfl).2, hf 9 rfl]
  have tvt : ∀ v x, rf_vt t v x ↔ rf_vt s v x := fun v x => by
    unfold rf_vt
    rw [tis, (hF.same 106 rfl).2, hf 58 rfl]
  have trp : ∀ {y x : rf_T} {i e : Int}, rf_rp s y x i e → rf_rp t y x i e := by
    intro y x
    induction x with
    | leaf => exact fun h => h
    | inner n u v A B _ ih =>
      rintro i e (q | ⟨q1, q2⟩)
      · exact Or.inl q
      · exact Or.inr ⟨by rw [tvt, (hF.same 105 rfl).2]; exact q1, ih q2⟩
  have hH : ∀ j k r u, rf_H s j k r u → rf_H t j k r u := by
    rintro j k r u (⟨q1, q2⟩ | ⟨q1, q2, q3⟩ | ⟨q1, q2⟩ | ⟨q1, q2, e, x, ⟨q3, q4, q5, q6⟩, q7, q8⟩)
    · exact Or.inl ⟨q1, (tvt _ _).mpr q2⟩
    · refine Or.inr (Or.inl ⟨q1, by omega, ?_⟩)
      rw [ha 96 _ (by omega) (by omega) (by omega), tis]
      exact q3
    · exact Or.inr (Or.inr (Or.inl ⟨q1, (tvt _ _).mpr q2⟩))
    · refine Or.inr (Or.inr (Or.inr ⟨q1, q2, e, x, ⟨by omega, q4, by rw [(hF.same 104 rfl).2]; exact q5, by rw [hf 56 rfl]; exact q6⟩, ?_, ?_⟩))
      · rw [hb 123 _ (by omega) (by omega) (by omega), tis]
        exact q7
      · rw [(hF.same 104 rfl).2]
        exact trp q8
  have hEQ : ∀ z x, rf_EQ s z x → rf_EQ t z x := by
    rintro z x ⟨N, n1, n2, n3, n4⟩
    refine ⟨N, ?_, (rf_gt_mono (fun j _ => ⟨hH j, fun _ q => q⟩)).1 x n2, ?_, n4⟩
    · unfold rf_no at n1 ⊢
      rw [(hF.same 100 rfl).2, (hF.same 101 rfl).2, (hF.same 102 rfl).2, (hF.same 103 rfl).2, hf 50 rfl]
      exact n1
    · refine rf_sc_an.1 ((rf_an_gt (H := rf_H s) (P := rf_P) (p := fun j r => ∀ Γ, rf_G s j r Γ → rf_G t j r Γ) (fun j r u q => ?_)).1 x n2) [] n3
      rcases q with ⟨c, _⟩ | ⟨c, _⟩ | ⟨c, _⟩ | ⟨_, _, e, x', ⟨q3, _⟩, _⟩
      · omega
      · omega
      · omega
      · rintro Γ ⟨x2, g1, g2, g3, g4⟩
        refine ⟨x2, ?_, ?_, ?_, ?_⟩
        · rw [hb 123 _ (by omega) (by omega) (by omega), tis]
          exact g1
        · rw [(hF.same 104 rfl).2, hf 56 rfl]
          exact g2
        · rw [(hF.same 104 rfl).2, rf_rl_eq (s := s) (t := t) (fun q _ => by rw [(hF.same 105 rfl).2])]
          exact g3
        · rw [(hF.same 104 rfl).2, rf_rl_eq (s := s) (t := t) (fun q _ => by rw [(hF.same 105 rfl).2])]
          exact g4
  intro e he
  rw [hf 47 rfl] at he
  obtain ⟨x, x1, x2⟩ := h e he
  rw [(hF.same 98 rfl).2, (hF.same 99 rfl).2]
  exact ⟨x, hEQ _ _ x1, hEQ _ _ x2⟩
end
