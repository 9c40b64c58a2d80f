/-! ===== the reference: check ===== -/
/-- an application under way: its head, the parts that are checked; w: what is left -/
def rf_Ap (s u : sx_S) (j : Nat) (D : rf_N) (Γ : List Int) (c : Nat) (w : rf_T) : Prop := ∃ U, (rf_rk u j ≠ 0 ∧ rf_rk u j = u.2.1 83 j ∧ rf_RH u j (rf_rk u j) (u.2.1 82 j) U ∧ (rf_rk u j = 2 → u.2.1 82 j ∈ Γ)) ∧ (rf_gt (rf_RH u) (rf_RP u) (rf_mm u D)).2 U w ∧ (rf_gd (rf_mm u D)).2 ∧ (rf_sc rf_G1 (rf_mm u D)).2 Γ ∧ rf_CB s u (1 + (rf_cs (rf_mm u D)).2 + c)
theorem rf_Ap_C {s u t : sx_S} {S : List Nat} {j : Nat} {D : rf_N} {Γ : List Int} {c c2 : Nat} {w : rf_T} (h : rf_FC u t S) (hj : j ∉ S) (hD : ∀ i ∈ rf_idx D, i ∉ S) (hc : rf_CB u t c2) (g : rf_Ap s u j D Γ c w) : rf_Ap s t j D Γ (c + c2) w := by
  obtain ⟨U, ⟨g1, g2, g3, g4⟩, g5, g6, g7, g8⟩ := g
  have e83 := h.2.2.2.2.1 83 j (by omega) (by omega) hj
  have e82 := h.2.2.2.2.1 82 j (by omega) (by omega) hj
  have erk : rf_rk t j = rf_rk u j := by
    unfold rf_rk
    rw [(h.same 74 rfl).2, e83]
  have em := rf_mm_C h hD
  refine ⟨U, ⟨by rw [erk]; exact g1, by rw [erk, e83]; exact g2, ?_, by rw [erk, e82]; exact g4⟩, ?_, by rw [em]; exact g6, by rw [em]; exact g7, ?_⟩
  · rw [erk, e82]
    exact rf_RH_up h.2.2.1 g3
  · rw [em]
    refine (rf_Rt_C h (fun i hi => ?_)).2 _ _ g5
    rw [rf_mm_idx] at hi
    exact hD i hi
  · rw [em]
    exact rf_CB_trans hc g8 (by omega)
theorem rf_Rd_C {s t : sx_S} {S : List Nat} (h : rf_FC s t S) {n : rf_N} (hd : ∀ j ∈ rf_idx n, j ∉ S) {x : rf_T} {Γ : List Int} (g : rf_Rd s n x Γ) : rf_Rd t n x Γ := rf_Rd_F0 (rf_F0_C h (Int.le_refl _)) hd g
theorem rf_rk_eq {s t : sx_S} {j : Nat} (h1 : t.2.1 74 j = s.2.1 74 j) (h2 : t.2.1 83 j = s.2.1 83 j) : rf_rk t j = rf_rk s j := by
  unfold rf_rk
  rw [h1, h2]
theorem rf_rw_part {s : sx_S} {b : rf_N} (hb : b ≠ .leaf) : ∀ {a : rf_N}, (rf_rw s (rf_snoc a b)).2 → (rf_rw s b).1
  | .leaf, h => by
    cases b with
    | leaf => exact absurd rfl hb
    | inner j k u f x => exact h.1
  | .inner _ _ _ _ _, h => rf_rw_part hb h.2
theorem rf_gd_snoc {b : rf_N} : ∀ {a : rf_N}, (rf_gd a).2 → (rf_gd b).2 → (rf_gd (rf_snoc a b)).2
  | .leaf, _, g => g
  | .inner _ _ _ _ _, h, g => ⟨h.1, rf_gd_snoc h.2 g⟩
