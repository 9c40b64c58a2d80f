/-! ===== the reference: distinct, its contract ===== -/
theorem rf_ym_CC {s u t : sx_S} (hu : rf_FC s u []) (ht : rf_FC s t []) {n : rf_N} {i : Int} (g : rf_ym u n i) : rf_ym t n i := by
  have e : ∀ j, rf_rk t j = rf_rk u j := fun j => by
    unfold rf_rk
    rw [(ht.same 74 rfl).2, (hu.same 74 rfl).2, ht.2.2.2.2.1 83 j (by omega) (by omega) List.not_mem_nil, hu.2.2.2.2.1 83 j (by omega) (by omega) List.not_mem_nil]
  refine rf_nd_mono (Int.le_of_eq ((hu.2.1 12 rfl).trans (ht.2.1 12 rfl).symm)) (fun j _ => ⟨e j, ?_, by rw [(ht.same 80 rfl).2, (hu.same 80 rfl).2], by rw [(ht.same 81 rfl).2, (hu.same 81 rfl).2]⟩) g
  rw [ht.2.2.2.2.1 82 j (by omega) (by omega) List.not_mem_nil, hu.2.2.2.2.1 82 j (by omega) (by omega) List.not_mem_nil]

theorem rf_gt_part {H : Nat → Int → Int → rf_T → Prop} {P : Nat → rf_T → Prop} {b : rf_N} {x : rf_T} : ∀ {a : rf_N} {u : rf_T}, (rf_gt H P (rf_snoc a b)).2 u x → ∃ w, (rf_gt H P b).2 w x ∧ rf_at w + rf_len a ≤ rf_at u
  | .leaf, u, h => ⟨u, h, Nat.le_refl _⟩
  | .inner j k v f y, u, ⟨A, B, h1, _, h3⟩ => by
    obtain ⟨w, h4, h5⟩ := rf_gt_part h3
    refine ⟨w, h4, ?_⟩
    have := rf_at_pos A
    have e : rf_at u = rf_at A + rf_at B := by
      rw [h1]
      rfl
    have e2 : rf_len (.inner j k v f y) = rf_len y + 1 := rfl
    omega
theorem rf_gt_len {H : Nat → Int → Int → rf_T → Prop} {P : Nat → rf_T → Prop} {x : rf_T} : ∀ {a : rf_N} {u : rf_T}, (rf_gt H P a).2 u x → rf_len a + rf_at x ≤ rf_at u
  | .leaf, u, h => by
    have e : u = x := h
    rw [e]
    exact Nat.le_of_eq (Nat.zero_add _)
  | .inner j k v f y, u, ⟨A, B, h1, _, h3⟩ => by
    have := rf_gt_len h3
    have := rf_at_pos A
    have e : rf_at u = rf_at A + rf_at B := by
      rw [h1]
      rfl
    have e2 : rf_len (.inner j k v f y) = rf_len y + 1 := rfl
    omega
theorem rf_gd_part {b : rf_N} : ∀ {a : rf_N}, (rf_gd (rf_snoc a b)).2 → (rf_gd b).2
  | .leaf, h => h
  | .inner _ _ _ _ _, h => rf_gd_part h.2
theorem rf_sc_part {G : Nat → Int → List Int → Prop} {Γ : List Int} {b : rf_N} : ∀ {a : rf_N}, (rf_sc G (rf_snoc a b)).2 Γ → (rf_sc G b).2 Γ
  | .leaf, h => h
  | .inner _ _ _ _ _, h => rf_sc_part h.2
theorem rf_ht_part {b : rf_N} : ∀ {a : rf_N}, (rf_ht b).2 ≤ (rf_ht (rf_snoc a b)).2
  | .leaf => Nat.le_refl _
  | .inner _ _ _ _ x => Nat.le_trans (rf_ht_part (a := x)) (Nat.le_max_right _ _)
theorem rf_nodup_part {b : rf_N} : ∀ {a : rf_N}, (rf_idx (rf_snoc a b)).Nodup → (rf_idx b).Nodup
  | .leaf, h => h
  | .inner j k _ f x, h => rf_nodup_part (a := x) ((List.nodup_append.mp (List.nodup_cons.mp h).2).2.1)
theorem rf_idx_slen (b : rf_N) : ∀ a : rf_N, (rf_idx (rf_snoc a b)).length = (rf_idx a).length + (rf_idx b).length
  | .leaf => (Nat.zero_add _).symm
  | .inner j k _ f x => by
    have := rf_idx_slen b x
    show (j :: (rf_idx f ++ rf_idx (rf_snoc x b))).length = (j :: (rf_idx f ++ rf_idx x)).length + _
    simp only [List.length_cons, List.length_append, this]
    omega
/-- what building a part wants, for a row -/
def rf_ro5 (s : sx_S) (Γ : List Int) (Z : Nat) (x : rf_T) (n : rf_N) : Prop := (∃ w, (rf_gt (rf_RH s) (rf_RP s) n).2 w x) ∧ (rf_gd n).2 ∧ (rf_sc rf_G1 n).2 Γ ∧ (rf_ht n).2 ≤ Z
theorem rf_ro5_part {s : sx_S} {Γ : List Int} {Z : Nat} {x : rf_T} {a b : rf_N} (h : rf_ro5 s Γ Z x (rf_snoc a b)) : rf_ro5 s Γ Z x b := by
  obtain ⟨⟨w, h1⟩, h2, h3, h4⟩ := h
  obtain ⟨w', h5, _⟩ := rf_gt_part h1
  exact ⟨⟨w', h5⟩, rf_gd_part h2, rf_sc_part h3, Nat.le_trans rf_ht_part h4⟩
/-- a part is built, and the variable is asked -/
theorem rf_bv {sL : Nat} {sx : Nat → Int32} (hsL : sL ≤ 3072) {Z d : Nat} (hZ : Z ≤ 1000) (hd : 10 * Z + 30 ≤ d) {s u : sx_S} {Γ : List Int} {x : rf_T} {j : Nat} {k : Int × Int} {v : Unit} {f y : rf_N} {i : Int} (hI : cx_I u) (hF : rf_FC s u []) (hr : rf_ro5 s Γ Z x (.inner j k v f y)) (hy : rf_ym u (.inner j k v f y) i) (h9 : 2 ≤ u.1 66 9 ∧ u.1 66 9 ≤ 6000) (hRB : rf_RB u (rf_s1 (.inner j k v f y))) : ∃ A, (∀ K : Int → sx_S → Prop, (∀ z t, (cx_I t ∧ rf_FB u t ∧ rf_CB u t (rf_s1 (.inner j k v f y)) ∧ rf_made (u.1 66 50) A t z (rf_PB (.inner j k v f y) Γ t)) → K z t) → sx_C sL sx d 182 [.inr (.inl 66), .inl i] u K) ∧ (∀ z t, (cx_I t ∧ rf_FB u t ∧ rf_CB u t (rf_s1 (.inner j k v f y)) ∧ rf_made (u.1 66 50) A t z (rf_PB (.inner j k v f y) Γ t)) → ∀ K : Int → sx_S → Prop, (∀ w, ((-2147483648 ≤ w ∧ w ≤ 2147483647) ∧ (w ≠ -1 → rf_lf (.inner j k v f y) w) ∧ ∀ q, rf_lf (.inner j k v f y) q → w = q) → K w t) → sx_C sL sx d 183 [.inr (.inl 66), .inl z] t K) := by
  obtain ⟨⟨w, A, B, h1, h2, h3⟩, h4, h5, h6⟩ := hr
  have hhr := rf_ht_r (j := j) (k := k) (u := v) (f := f) (x := y)
  refine ⟨A, fun K hK => ?_, ?_⟩
  · exact c_r_build hsL Z d hZ (by omega) (.inner j k v f y) A Γ i u K hI hy (by omega) ((rf_Rt_C hF (fun _ _ => List.not_mem_nil)).1 _ h2) h4.1 h5.1 h9 hRB (fun z t q1 q2 q3 q4 => hK z t ⟨q1, q2, q3, q4⟩)
  · rintro z t ⟨q1, q2, q3, ⟨N, n1, n2, n3, n4, n5, ⟨n6, n7⟩, n8⟩⟩ K hK
    exact c_r_varF hsL (9 * Z) d (by omega) N A z t K q1 (by omega) n1 n5 (by omega) (fun q z1 z2 z3 => hK q ⟨z1, fun hq => (n6 [] q).mp (z2 hq).2, fun p hp => z3 p ((n6 [] p).mpr hp)⟩)
