/-! ===== fresh, exactly, of both ===== -/
theorem w8_hasSol {CALL : sx_Ca} {sL : Nat} {sx : Nat → Int32} {Q : Nat → sx_L → sx_S → Prop} {R : Int → sx_S → Prop} {s : sx_S} (hI : cx_I s) (h1 : s.1 0 2 ≠ 0 → s.1 0 3 = 0 → R 1 s) (h0 : (s.1 0 2 = 0 ∨ s.1 0 3 ≠ 0) → R 0 s) : sx_wp true sL sx eX11_hasSolution CALL [] Q R 400 0 (sx_argsF 0 [.inr (.inl 0)]) [] s := by
  have r2 := hI.fld 0 2 (by decide) rfl
  have r3 := hI.fld 0 3 (by decide) rfl
  repeat' (first | (with_reducible (rintro _ rfl)) | (with_reducible intro _) | (refine And.intro ?_ ?_))
  all_goals (try dsimp only at *)
  all_goals (first | trivial | assumption | omega | (exfalso; omega) | (exact h1 (by omega) (by omega)) | (exact h0 (by omega)) | skip)
theorem c8_hasSol {sL : Nat} {sx : Nat → Int32} (hsL : sL ≤ 3072) (d : Nat) (hd : 2 ≤ d) : ∀ (s : sx_S) (K : Int → sx_S → Prop), cx_I s → (s.1 0 2 ≠ 0 → s.1 0 3 = 0 → K 1 s) → ((s.1 0 2 = 0 ∨ s.1 0 3 ≠ 0) → K 0 s) → sx_C sL sx d 147 [.inr (.inl 0)] s K := by
  intro s K hI h1 h0
  obtain ⟨d, rfl⟩ : ∃ e, d = e + 2 := ⟨d - 2, by omega⟩
  exact sx_meth (wr := true) (n := 400) hsL (e := eX11_hasSolution) rfl (w8_hasSol (Q := fun _ _ _ => False) hI h1 h0)
