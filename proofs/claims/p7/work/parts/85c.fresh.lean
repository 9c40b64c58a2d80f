/-! ===== fresh, exactly, of both ===== -/
theorem w8_hasSol {CALL : sx_Ca} {sL : Nat} {sx : Nat → Int32} {Q : Nat → sx_L → sx_S → Prop} {R : Int → sx_S → Prop} {s : sx_S} (hI : cx_I s) (h1 : s.1 0 2 ≠ 0 → s.1 0 3 = 0 → R 1 s) (h0 : (s.1 0 2 = 0 ∨ s.1 0 3 ≠ 0) → R 0 s) : sx_wp true sL sx eX11_hasSolution CALL [] Q R 400 0 (sx_argsF 0 [.inr (.inl 0)]) [] s := by
  have r2 := hI.fld 0 2 (by decide) rfl
  have r3 := hI.fld 0 3 (by decide) rfl
  repeat' (first | (with_reducible (rintro _ rfl)) | (with_reducible intro _) | (refine And.intro ?_ ?_))
  all_goals (try dsimp only at *)
  all_goals (first | trivial | assumption | omega | (exfalso; omega) | (exact h1 (by omega) (by omega)) | (exact h0 (by omega)) | skip)
theorem c8_hasSol {sL : Nat} {sx : Nat → Int32} (hsL : sL ≤ 3072) (d : Nat) (hd : 2 ≤ d) : ∀ (s : sx_S) (K : Int → sx_S → Prop), cx_I s → (s.1 0 2 ≠ 0 → s.1 0 3 = 0 → K 1 s) → ((s.1 0 2 = 0 ∨ s.1 0 3 ≠ 0) → K 0 s) → sx_C sL sx d 147 [.inr (.inl 0)] s K := by
  intro s K hI h1 h0
  obtain ⟨d, rfl⟩ : ∃ e, d = e + 2 := ⟨d - 2, by omega⟩
  exact sx_meth (wr := true) (n := 400) hsL (e := eX11_hasSolution) rfl (w8_hasSol (Q := fun _ _ _ => False) hI h1 h0)
theorem w8_own {CALL : sx_Ca} {sL : Nat} {sx : Nat → Int32} {Q : Nat → sx_L → sx_S → Prop} {R : Int → sx_S → Prop} {s : sx_S} (hI : cx_I s) (hK : R (s.1 55 8) s) : sx_wp true sL sx eX10_ownUnknowns CALL [] Q R 400 0 (sx_argsF 0 [.inr (.inl 55)]) [] s := by
  have r8 := hI.fld 55 8 (by decide) rfl
  repeat' (first | (with_reducible (rintro _ rfl)) | (with_reducible intro _) | (refine And.intro ?_ ?_))
  all_goals (try dsimp only at *)
  all_goals (first | trivial | assumption | omega | (exfalso; omega) | skip)
theorem c8_own {sL : Nat} {sx : Nat → Int32} (hsL : sL ≤ 3072) (d : Nat) (hd : 2 ≤ d) : ∀ (s : sx_S) (K : Int → sx_S → Prop), cx_I s → K (s.1 55 8) s → sx_C sL sx d 121 [.inr (.inl 55)] s K := by
  intro s K hI hK
  obtain ⟨d, rfl⟩ : ∃ e, d = e + 2 := ⟨d - 2, by omega⟩
  exact sx_meth (wr := true) (n := 400) hsL (e := eX10_ownUnknowns) rfl (w8_own (Q := fun _ _ _ => False) hI hK)
theorem w8_fresh1 {CALL : sx_Ca} {sL : Nat} {sx : Nat → Int32} {Q : Nat → sx_L → sx_S → Prop} {R : Int → sx_S → Prop} {s : sx_S} (hc : ∀ K : Int → sx_S → Prop, K 1 s → CALL 147 [.inr (.inl 0)] s K) (ho : ∀ K : Int → sx_S → Prop, K (s.1 55 8) s → CALL 121 [.inr (.inl 55)] s K) (hI : cx_I s) (hK : R (s.1 55 8) s) : sx_wp true sL sx eX11_fresh CALL [] Q R 400 0 (sx_argsF 0 [.inr (.inl 0)]) [] s := by
  have r8 := hI.fld 55 8 (by decide) rfl
  repeat' (first | (with_reducible (rintro _ rfl)) | (with_reducible intro _) | (refine And.intro ?_ ?_) | (refine hc _ ?_) | (refine ho _ ?_))
  all_goals (try dsimp only at *)
  all_goals (first | trivial | assumption | omega | (exfalso; omega) | skip)
theorem w8_fresh0 {CALL : sx_Ca} {sL : Nat} {sx : Nat → Int32} {Q : Nat → sx_L → sx_S → Prop} {R : Int → sx_S → Prop} {s : sx_S} (hc : ∀ K : Int → sx_S → Prop, K 0 s → CALL 147 [.inr (.inl 0)] s K) (hI : cx_I s) (hK : R (-1) s) : sx_wp true sL sx eX11_fresh CALL [] Q R 400 0 (sx_argsF 0 [.inr (.inl 0)]) [] s := by
  repeat' (first | (with_reducible (rintro _ rfl)) | (with_reducible intro _) | (refine And.intro ?_ ?_) | (refine hc _ ?_))
  all_goals (try dsimp only at *)
  all_goals (first | trivial | assumption | omega | (exfalso; omega) | skip)
theorem c8_fresh {sL : Nat} {sx : Nat → Int32} (hsL : sL ≤ 3072) (d : Nat) (hd : 4 ≤ d) : ∀ (s : sx_S) (K : Int → sx_S → Prop), cx_I s → (s.1 0 2 ≠ 0 → s.1 0 3 = 0 → K (s.1 55 8) s) → ((s.1 0 2 = 0 ∨ s.1 0 3 ≠ 0) → K (-1) s) → sx_C sL sx d 142 [.inr (.inl 0)] s K := by
  intro s K hI h1 h0
  obtain ⟨d, rfl⟩ : ∃ e, d = e + 2 := ⟨d - 2, by omega⟩
  by_cases c : s.1 0 2 ≠ 0 ∧ s.1 0 3 = 0
  · exact sx_meth (wr := true) (n := 400) hsL (e := eX11_fresh) rfl (w8_fresh1 (Q := fun _ _ _ => False) (fun K' hK' => c8_hasSol hsL (d + 1) (by omega) s K' hI (fun _ _ => hK') (fun q => absurd q (by omega))) (fun K' hK' => c8_own hsL (d + 1) (by omega) s K' hI hK') hI (h1 c.1 c.2))
  · exact sx_meth (wr := true) (n := 400) hsL (e := eX11_fresh) rfl (w8_fresh0 (Q := fun _ _ _ => False) (fun K' hK' => c8_hasSol hsL (d + 1) (by omega) s K' hI (fun q1 q2 => absurd ⟨q1, q2⟩ c) (fun _ => hK')) hI (h0 (by omega)))
theorem w8_rfresh {CALL : sx_Ca} {sL : Nat} {sx : Nat → Int32} {Q : Nat → sx_L → sx_S → Prop} {R : Int → sx_S → Prop} {s : sx_S} (hI : cx_I s) (h1 : s.1 66 78 ≠ 0 → R (s.1 66 79) s) (h0 : s.1 66 78 = 0 → R (-1) s) : sx_wp true sL sx eX12_fresh CALL [] Q R 400 0 (sx_argsF 0 [.inr (.inl 66)]) [] s := by
  have r78 := hI.fld 66 78 (by decide) rfl
  have r79 := hI.fld 66 79 (by decide) rfl
  repeat' (first | (with_reducible (rintro _ rfl)) | (with_reducible intro _) | (refine And.intro ?_ ?_))
  all_goals (try dsimp only at *)
  all_goals (first | trivial | assumption | omega | (exfalso; omega) | (exact h1 (by omega)) | (exact h0 (by omega)) | skip)
theorem c8_rfresh {sL : Nat} {sx : Nat → Int32} (hsL : sL ≤ 3072) (d : Nat) (hd : 2 ≤ d) : ∀ (s : sx_S) (K : Int → sx_S → Prop), cx_I s → (s.1 66 78 ≠ 0 → K (s.1 66 79) s) → (s.1 66 78 = 0 → K (-1) s) → sx_C sL sx d 214 [.inr (.inl 66)] s K := by
  intro s K hI h1 h0
  obtain ⟨d, rfl⟩ : ∃ e, d = e + 2 := ⟨d - 2, by omega⟩
  exact sx_meth (wr := true) (n := 400) hsL (e := eX12_fresh) rfl (w8_rfresh (Q := fun _ _ _ => False) hI h1 h0)
