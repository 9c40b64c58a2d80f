theorem w_dw_solve {CALL : sx_Ca} {sL : Nat} {sx : Nat → Int32} {Q : Nat → sx_L → sx_S → Prop} {R : Int → sx_S → Prop} {G : Int → sx_S → Prop} {G2 : sx_S → sx_S → Prop} {s : sx_S} (h_un : s.1 0 2 ≠ 0 → s.1 0 3 = -1 → ∀ K : Int → sx_S → Prop, (∀ z t, G z t → K z t) → CALL 70 [.inr (.inl 38), .inr (.inl 18)] s K) (hG : ∀ z t, G z t → cx_I t ∧ (z = 0 ∨ z = 1)) (h_nu : ∀ t, G 1 t → cx_I (sx_uf t.1 0 3 0, t.2) → ∀ K : Int → sx_S → Prop, (∀ u, G2 t u → K 0 u) → CALL 124 [.inr (.inl 55)] (sx_uf t.1 0 3 0, t.2) K) (hG2 : ∀ t u, G2 t u → cx_I u) (hI : cx_I s) (hK0 : s.1 0 2 = 0 → R (-1) s) (hK1 : s.1 0 2 ≠ 0 → s.1 0 3 ≠ -1 → R (s.1 0 3) s) (hK2 : s.1 0 2 ≠ 0 → s.1 0 3 = -1 → ∀ t, G 0 t → R (((sx_uf t.1 0 3 1, t.2) : sx_S).1 0 3) (sx_uf t.1 0 3 1, t.2)) (hK3 : s.1 0 2 ≠ 0 → s.1 0 3 = -1 → ∀ t, G 1 t → ∀ u, G2 t u → R (u.1 0 3) u) : sx_wp true sL sx eX11_solve CALL [] Q R 400 0 (sx_argsF 0 [.inr (.inl 0)]) [] s := by
  have h3 := hI.fld 0 3 (by decide) rfl
  have h2 := hI.fld 0 2 (by decide) rfl
  have hI1 : ∀ z t, G z t → cx_I (sx_uf t.1 0 3 1, t.2) := fun z t h => cx_I_uf rfl rfl (hG z t h).1 (by omega) (by omega)
  have hI0 : ∀ z t, G z t → cx_I (sx_uf t.1 0 3 0, t.2) := fun z t h => cx_I_uf rfl rfl (hG z t h).1 (by omega) (by omega)
  by_cases c2 : s.1 0 2 = 0
  · have k := hK0 c2
    repeat' (first | (with_reducible (rintro _ rfl)) | (with_reducible intro _) | (refine And.intro ?_ ?_))
    all_goals (try dsimp only at *)
    all_goals (first | trivial | assumption | omega | (exfalso; omega) | (exact k) | skip)
  · by_cases c3 : s.1 0 3 = -1
    · have hK2' := hK2 c2 c3
      have hK3' := hK3 c2 c3
      have hun' := h_un c2 c3
      clear hK0 hK1 hK2 hK3 h_un
      repeat' (first | (with_reducible (rintro _ rfl)) | (with_reducible intro _) | (refine And.intro ?_ ?_) | (refine hun' _ (fun zzz zzt zzg => ?_); obtain ⟨zzi, zzc⟩ := hG zzz zzt zzg; have zz1 := hI1 zzz zzt zzg; have zz0 := hI0 zzz zzt zzg; rcases zzc with zze | zze <;> subst zze) | (refine h_nu zzt zzg zz0 _ (fun zzu zzv => ?_); have zzw := hG2 zzt zzu zzv) | (fail))
      all_goals (try dsimp only at *)
      all_goals (first | trivial | assumption | omega | (exfalso; omega) | (exact hK2' _ (by assumption)) | (exact hK3' zzt zzg zzu zzv) | (simp only [px_us] at *; first | omega | (exfalso; omega) | exact hK2' _ (by assumption)) | skip)
    · have k := hK1 c2 c3
      repeat' (first | (with_reducible (rintro _ rfl)) | (with_reducible intro _) | (refine And.intro ?_ ?_))
      all_goals (try dsimp only at *)
      all_goals (first | trivial | assumption | omega | (exfalso; omega) | (exact k) | skip)
