/-! ===== the desk: size, letter, side, sideLetter: what is asked of write ===== -/
theorem w_k_urN {CALL : sx_Ca} {sL : Nat} {sx : Nat → Int32} {Q : Nat → sx_L → sx_S → Prop} {R : Int → sx_S → Prop} (h_tot : ∀ (s : sx_S) (K : Int → sx_S → Prop), cx_I s → (∀ z : Int, (z = s.1 22 2) → K z s) → CALL 52 [.inr (.inl 22)] s K) {s : sx_S} {a0 : Int} (hI : cx_I s) (pr : -2147483648 ≤ a0 ∧ a0 ≤ 2147483647) (p0 : a0 < 0 ∨ s.1 22 2 ≤ a0) (hK : R (-1) s) : sx_wp true sL sx eX1_unknownRoot CALL [] Q R 400 0 (sx_argsF 0 [.inr (.inl 18), .inl a0]) [] s := by
  have r22 := hI.fld 22 2 (by decide) rfl
  repeat' (first | (with_reducible (rintro _ rfl)) | (with_reducible intro _) | (refine And.intro ?_ ?_) | (refine h_tot s _ hI (fun v v1 => ?_); obtain rfl := v1) | (fail))
  all_goals (try dsimp only at *)
  all_goals (first | trivial | assumption | omega | (exfalso; omega) | skip)
theorem c_k_urN {sL : Nat} {sx : Nat → Int32} (hsL : sL ≤ 3072) (d : Nat) (hd : 3 ≤ d) : ∀ (a0 : Int) (s : sx_S) (K : Int → sx_S → Prop), cx_I s → (-2147483648 ≤ a0 ∧ a0 ≤ 2147483647) → (a0 < 0 ∨ s.1 22 2 ≤ a0) → K (-1) s → sx_C sL sx d 17 [.inr (.inl 18), .inl a0] s K := by
  intro a0 s K hI pr p0 hK
  obtain ⟨d, rfl⟩ : ∃ e, d = e + 2 := ⟨d - 2, by omega⟩
  exact sx_meth (wr := true) (n := 400) hsL (e := eX1_unknownRoot) rfl (w_k_urN (Q := fun _ _ _ => False) (c_dv_tot hsL (d + 1) (by omega)) hI pr p0 hK)
theorem w_k_rtN {CALL : sx_Ca} {sL : Nat} {sx : Nat → Int32} {Q : Nat → sx_L → sx_S → Prop} {R : Int → sx_S → Prop} {s : sx_S} {a0 a1 : Int} (hI : cx_I s) (pr : -2147483648 ≤ a0 ∧ a0 ≤ 2147483647) (pr1 : -2147483648 ≤ a1 ∧ a1 ≤ 2147483647) (p0 : a0 < 0 ∨ s.1 18 10 ≤ a0 ∨ a1 < 0 ∨ 1 < a1) (hK : R (-1) s) : sx_wp true sL sx eX1_sideRoot CALL [] Q R 400 0 (sx_argsF 0 [.inr (.inl 18), .inl a0, .inl a1]) [] s := by
  have r18 := hI.fld 18 10 (by decide) rfl
  repeat' (first | (with_reducible (rintro _ rfl)) | (with_reducible intro _) | (refine And.intro ?_ ?_) | (fail))
  all_goals (try dsimp only at *)
  all_goals (first | trivial | assumption | omega | (exfalso; omega) | (simp only [sx_w_t] at *; omega) | skip)
theorem c_k_rtN {sL : Nat} {sx : Nat → Int32} (hsL : sL ≤ 3072) (d : Nat) (hd : 2 ≤ d) : ∀ (a0 a1 : Int) (s : sx_S) (K : Int → sx_S → Prop), cx_I s → (-2147483648 ≤ a0 ∧ a0 ≤ 2147483647) → (-2147483648 ≤ a1 ∧ a1 ≤ 2147483647) → (a0 < 0 ∨ s.1 18 10 ≤ a0 ∨ a1 < 0 ∨ 1 < a1) → K (-1) s → sx_C sL sx d 18 [.inr (.inl 18), .inl a0, .inl a1] s K := by
  intro a0 a1 s K hI pr pr1 p0 hK
  obtain ⟨d, rfl⟩ : ∃ e, d = e + 2 := ⟨d - 2, by omega⟩
  exact sx_meth (wr := true) (n := 400) hsL (e := eX1_sideRoot) rfl (w_k_rtN (Q := fun _ _ _ => False) hI pr pr1 p0 hK)
theorem c_k_wrM {sL : Nat} {sx : Nat → Int32} (hsL : sL ≤ 3072) (d : Nat) (hd : 2 ≤ d) : ∀ (a0 : Int) (s : sx_S) (K : Int → sx_S → Prop), cx_I s → (-2147483648 ≤ a0 ∧ a0 < 0) → K (-1) s → sx_C sL sx d 123 [.inr (.inl 55), .inl a0] s K := by
  intro a0 s K hI p0 hK
  obtain ⟨d, rfl⟩ : ∃ e, d = e + 2 := ⟨d - 2, by omega⟩
  refine sx_methL (wr := true) (n := 400) (n' := 400) (stop := [(54, [0, 2])]) (fun _ _ _ _ => False) hsL (e := eX10_write) rfl ?_ ?_
  · exact w_k_wrM hI p0 hK
  · intro n pc ls u h
    exact h.elim
theorem w_k_byte {CALL : sx_Ca} {sL : Nat} {sx : Nat → Int32} {Q : Nat → sx_L → sx_S → Prop} {R : Int → sx_S → Prop} {s : sx_S} {a0 : Int} (hI : cx_I s) (pr : -2147483648 ≤ a0 ∧ a0 ≤ 2147483647) (hK1 : 0 ≤ a0 → a0 < s.1 55 10 → a0 < 4000 → R (s.2.1 65 a0.toNat) s) (hK0 : (a0 < 0 ∨ s.1 55 10 ≤ a0 ∨ 4000 ≤ a0) → R (-1) s) : sx_wp true sL sx eX10_byteAt CALL [] Q R 400 0 (sx_argsF 0 [.inr (.inl 55), .inl a0]) [] s := by
  have r10 := hI.fld 55 10 (by decide) rfl
  repeat' (first | (with_reducible (rintro _ rfl)) | (with_reducible intro _) | (refine And.intro ?_ ?_) | (fail))
  all_goals (try dsimp only at *)
  all_goals (first | trivial | assumption | omega | (exfalso; omega) | (exact hK1 (by omega) (by omega) (by omega)) | (exact hK0 (by omega)) | skip)
theorem c_k_byte {sL : Nat} {sx : Nat → Int32} (hsL : sL ≤ 3072) (d : Nat) (hd : 2 ≤ d) : ∀ (a0 : Int) (s : sx_S) (K : Int → sx_S → Prop), cx_I s → (-2147483648 ≤ a0 ∧ a0 ≤ 2147483647) → (0 ≤ a0 → a0 < s.1 55 10 → a0 < 4000 → K (s.2.1 65 a0.toNat) s) → ((a0 < 0 ∨ s.1 55 10 ≤ a0 ∨ 4000 ≤ a0) → K (-1) s) → sx_C sL sx d 122 [.inr (.inl 55), .inl a0] s K := by
  intro a0 s K hI pr h1 h0
  obtain ⟨d, rfl⟩ : ∃ e, d = e + 2 := ⟨d - 2, by omega⟩
  exact sx_meth (wr := true) (n := 400) hsL (e := eX10_byteAt) rfl (w_k_byte (Q := fun _ _ _ => False) hI pr h1 h0)
theorem w_k_sizeN {CALL : sx_Ca} {sL : Nat} {sx : Nat → Int32} {Q : Nat → sx_L → sx_S → Prop} {R : Int → sx_S → Prop} {s : sx_S} {a0 : Int} (hI : cx_I s) (p0 : -2147483648 ≤ a0 ∧ a0 ≤ 2147483647) (hc : ∀ K : Int → sx_S → Prop, K 0 s → CALL 147 [.inr (.inl 0)] s K) (hK : R (-1) s) : sx_wp true sL sx eX11_size CALL [] Q R 400 0 (sx_argsF 0 [.inr (.inl 0), .inl a0]) [] s := by
  repeat' (first | (with_reducible (rintro _ rfl)) | (with_reducible intro _) | (refine And.intro ?_ ?_) | (refine hc _ ?_) | (fail))
  all_goals (try dsimp only at *)
  all_goals (first | trivial | assumption | omega | (exfalso; omega) | skip)
theorem w_k_sizeY {CALL : sx_Ca} {sL : Nat} {sx : Nat → Int32} {Q : Nat → sx_L → sx_S → Prop} {R : Int → sx_S → Prop} {s : sx_S} {a0 r : Int} {PW : Int → sx_S → Prop} (hI : cx_I s) (p0 : -2147483648 ≤ a0 ∧ a0 ≤ 2147483647) (rr : -2147483648 ≤ r ∧ r ≤ 2147483647) (hc : ∀ K : Int → sx_S → Prop, K 1 s → CALL 147 [.inr (.inl 0)] s K) (hr : ∀ K : Int → sx_S → Prop, K r s → CALL 17 [.inr (.inl 18), .inl a0] s K) (hw : ∀ K : Int → sx_S → Prop, (∀ z t, PW z t → K z t) → CALL 123 [.inr (.inl 55), .inl r] s K) (hz : ∀ z t, PW z t → -2147483648 ≤ z ∧ z ≤ 2147483647) (hK : ∀ z t, PW z t → R z t) : sx_wp true sL sx eX11_size CALL [] Q R 400 0 (sx_argsF 0 [.inr (.inl 0), .inl a0]) [] s := by
  repeat' (first | (with_reducible (rintro _ rfl)) | (with_reducible intro _) | (refine And.intro ?_ ?_) | (refine hc _ ?_) | (refine hr _ ?_) | (refine hw _ (fun zz1 zt1 zp1 => ?_); have zr1 := hz zz1 zt1 zp1) | (fail))
  all_goals (try dsimp only at *)
  all_goals (first | trivial | assumption | omega | (exfalso; omega) | (exact hK _ _ zp1) | skip)
theorem c_k_size {sL : Nat} {sx : Nat → Int32} (hsL : sL ≤ 3072) (d : Nat) (hd : 26 ≤ d) : ∀ (a0 : Int) (s : sx_S) (K PW : Int → sx_S → Prop), cx_I s → (-2147483648 ≤ a0 ∧ a0 ≤ 2147483647) → (∀ zz t, PW zz t → -1 ≤ zz ∧ zz ≤ 4000) → (s.1 0 2 ≠ 0 ∧ s.1 0 3 = 0 ∧ 0 ≤ a0 ∧ a0 < s.1 22 2 → ∀ d', 22 ≤ d' → ∀ K' : Int → sx_S → Prop, (∀ zz t, PW zz t → K' zz t) → sx_C sL sx d' 123 [.inr (.inl 55), .inl (s.2.1 25 a0.toNat)] s K') → ((s.1 0 2 ≠ 0 ∧ s.1 0 3 = 0 ∧ 0 ≤ a0 ∧ a0 < s.1 22 2) → ∀ zz t, PW zz t → K zz t) → (¬ (s.1 0 2 ≠ 0 ∧ s.1 0 3 = 0 ∧ 0 ≤ a0 ∧ a0 < s.1 22 2) → K (-1) s) → sx_C sL sx d 143 [.inr (.inl 0), .inl a0] s K := by
  intro a0 s K PW hI p0 hz hw hK hN
  have r22 := hI.fld 22 2 (by decide) rfl
  have ra := hI.arr 25 (by decide) rfl a0.toNat
  obtain ⟨d, rfl⟩ : ∃ e, d = e + 2 := ⟨d - 2, by omega⟩
  by_cases c : s.1 0 2 ≠ 0 ∧ s.1 0 3 = 0
  · by_cases c2 : s.1 0 2 ≠ 0 ∧ s.1 0 3 = 0 ∧ 0 ≤ a0 ∧ a0 < s.1 22 2
    · exact sx_meth (wr := true) (n := 400) hsL (e := eX11_size) rfl (w_k_sizeY (Q := fun _ _ _ => False) (r := (s.2.1 25 a0.toNat)) (PW := PW) hI p0 ra (fun K' hK' => c8_hasSol hsL (d + 1) (by omega) s K' hI (fun _ _ => hK') (fun q => absurd q (by omega))) (fun K' hK' => c_dw_ur hsL (d + 1) (by omega) a0 s K' hI (by omega) hK') (fun K' hK' => hw c2 (d + 1) (by omega) K' hK') (fun zz t h => by have := hz zz t h; omega) (hK c2))
    · exact sx_meth (wr := true) (n := 400) hsL (e := eX11_size) rfl (w_k_sizeY (Q := fun _ _ _ => False) (r := -1) (PW := fun zz t => zz = -1 ∧ t = s) hI p0 (by decide) (fun K' hK' => c8_hasSol hsL (d + 1) (by omega) s K' hI (fun _ _ => hK') (fun q => absurd q (by omega))) (fun K' hK' => c_k_urN hsL (d + 1) (by omega) a0 s K' hI p0 (by omega) hK') (fun K' hK' => c_k_wrM hsL (d + 1) (by omega) (-1) s K' hI (by decide) (hK' _ _ ⟨rfl, rfl⟩)) (fun zz t h => by have := h.1; omega) (fun zz t h => by rw [h.1, h.2]; exact hN c2))
  · exact sx_meth (wr := true) (n := 400) hsL (e := eX11_size) rfl (w_k_sizeN (Q := fun _ _ _ => False) hI p0 (fun K' hK' => c8_hasSol hsL (d + 1) (by omega) s K' hI (fun q1 q2 => absurd ⟨q1, q2⟩ c) (fun _ => hK')) (hN (fun q => c ⟨q.1, q.2.1⟩)))
theorem w_k_letterN {CALL : sx_Ca} {sL : Nat} {sx : Nat → Int32} {Q : Nat → sx_L → sx_S → Prop} {R : Int → sx_S → Prop} {s : sx_S} {a0 a1 : Int} (hI : cx_I s) (p0 : -2147483648 ≤ a0 ∧ a0 ≤ 2147483647) (p1 : -2147483648 ≤ a1 ∧ a1 ≤ 2147483647) (hc : ∀ K : Int → sx_S → Prop, K 0 s → CALL 147 [.inr (.inl 0)] s K) (hK : R (-1) s) : sx_wp true sL sx eX11_letter CALL [] Q R 400 0 (sx_argsF 0 [.inr (.inl 0), .inl a0, .inl a1]) [] s := by
  repeat' (first | (with_reducible (rintro _ rfl)) | (with_reducible intro _) | (refine And.intro ?_ ?_) | (refine hc _ ?_) | (fail))
  all_goals (try dsimp only at *)
  all_goals (first | trivial | assumption | omega | (exfalso; omega) | skip)
theorem w_k_letterY {CALL : sx_Ca} {sL : Nat} {sx : Nat → Int32} {Q : Nat → sx_L → sx_S → Prop} {R : Int → sx_S → Prop} {s : sx_S} {a0 a1 r : Int} {PW PB : Int → sx_S → Prop} (hI : cx_I s) (p0 : -2147483648 ≤ a0 ∧ a0 ≤ 2147483647) (p1 : -2147483648 ≤ a1 ∧ a1 ≤ 2147483647) (rr : -2147483648 ≤ r ∧ r ≤ 2147483647) (hc : ∀ K : Int → sx_S → Prop, K 1 s → CALL 147 [.inr (.inl 0)] s K) (hr : ∀ K : Int → sx_S → Prop, K r s → CALL 17 [.inr (.inl 18), .inl a0] s K) (hw : ∀ K : Int → sx_S → Prop, (∀ z t, PW z t → K z t) → CALL 123 [.inr (.inl 55), .inl r] s K) (hz : ∀ z t, PW z t → -2147483648 ≤ z ∧ z ≤ 2147483647) (hb : ∀ z t, PW z t → 0 ≤ z → ∀ K : Int → sx_S → Prop, (∀ y, PB y t → K y t) → CALL 122 [.inr (.inl 55), .inl a1] t K) (hy : ∀ y t, PB y t → -2147483648 ≤ y ∧ y ≤ 2147483647) (hK1 : ∀ z t, PW z t → z < 0 → R (-1) t) (hK2 : ∀ z t y, PW z t → 0 ≤ z → PB y t → R y t) : sx_wp true sL sx eX11_letter CALL [] Q R 400 0 (sx_argsF 0 [.inr (.inl 0), .inl a0, .inl a1]) [] s := by
  repeat' (first | (with_reducible (rintro _ rfl)) | (with_reducible intro _) | (refine And.intro ?_ ?_) | (refine hc _ ?_) | (refine hr _ ?_) | (refine hw _ (fun zz1 zt1 zp1 => ?_); have zr1 := hz zz1 zt1 zp1) | (refine hb zz1 zt1 zp1 (by omega) _ (fun zy1 zp2 => ?_); have zr2 := hy zy1 zt1 zp2) | (fail))
  all_goals (try dsimp only at *)
  all_goals (first | trivial | assumption | omega | (exfalso; omega) | (exact hK1 _ _ zp1 (by omega)) | (exact hK2 _ _ _ zp1 (by omega) zp2) | skip)
theorem c_k_letter {sL : Nat} {sx : Nat → Int32} (hsL : sL ≤ 3072) (d : Nat) (hd : 26 ≤ d) : ∀ (a0 a1 : Int) (s : sx_S) (K PW : Int → sx_S → Prop), cx_I s → (-2147483648 ≤ a0 ∧ a0 ≤ 2147483647) → (-2147483648 ≤ a1 ∧ a1 ≤ 2147483647) → (∀ zz t, PW zz t → cx_I t ∧ -1 ≤ zz ∧ zz ≤ 4000) → (s.1 0 2 ≠ 0 ∧ s.1 0 3 = 0 ∧ 0 ≤ a0 ∧ a0 < s.1 22 2 → ∀ d', 22 ≤ d' → ∀ K' : Int → sx_S → Prop, (∀ zz t, PW zz t → K' zz t) → sx_C sL sx d' 123 [.inr (.inl 55), .inl (s.2.1 25 a0.toNat)] s K') → ((s.1 0 2 ≠ 0 ∧ s.1 0 3 = 0 ∧ 0 ≤ a0 ∧ a0 < s.1 22 2) → ∀ zz t, PW zz t → (zz < 0 → K (-1) t) ∧ (0 ≤ zz → 0 ≤ a1 → a1 < t.1 55 10 → a1 < 4000 → K (t.2.1 65 a1.toNat) t) ∧ (0 ≤ zz → (a1 < 0 ∨ t.1 55 10 ≤ a1 ∨ 4000 ≤ a1) → K (-1) t)) → (¬ (s.1 0 2 ≠ 0 ∧ s.1 0 3 = 0 ∧ 0 ≤ a0 ∧ a0 < s.1 22 2) → K (-1) s) → sx_C sL sx d 144 [.inr (.inl 0), .inl a0, .inl a1] s K := by
  intro a0 a1 s K PW hI p0 p1 hz hw hK hN
  have r22 := hI.fld 22 2 (by decide) rfl
  have ra := hI.arr 25 (by decide) rfl a0.toNat
  obtain ⟨d, rfl⟩ : ∃ e, d = e + 2 := ⟨d - 2, by omega⟩
  by_cases c : s.1 0 2 ≠ 0 ∧ s.1 0 3 = 0
  · by_cases c2 : s.1 0 2 ≠ 0 ∧ s.1 0 3 = 0 ∧ 0 ≤ a0 ∧ a0 < s.1 22 2
    · refine sx_meth (wr := true) (n := 400) hsL (e := eX11_letter) rfl (w_k_letterY (Q := fun _ _ _ => False) (r := (s.2.1 25 a0.toNat)) (PW := PW) (PB := fun y t => (-2147483648 ≤ y ∧ y ≤ 2147483647) ∧ ((0 ≤ a1 ∧ a1 < t.1 55 10 ∧ a1 < 4000 ∧ y = t.2.1 65 a1.toNat) ∨ ((a1 < 0 ∨ t.1 55 10 ≤ a1 ∨ 4000 ≤ a1) ∧ y = -1))) hI p0 p1 ra (fun K' hK' => c8_hasSol hsL (d + 1) (by omega) s K' hI (fun _ _ => hK') (fun q => absurd q (by omega))) (fun K' hK' => c_dw_ur hsL (d + 1) (by omega) a0 s K' hI (by omega) hK') (fun K' hK' => hw c2 (d + 1) (by omega) K' hK') (fun zz t h => by have := hz zz t h; omega) (fun zz t h h0 K' hK' => ?_) (fun y t h => h.1) (fun zz t h h0 => (hK c2 zz t h).1 h0) (fun zz t y h h0 hy => ?_))
      · have hIt := (hz zz t h).1
        have r65 := hIt.arr 65 (by decide) rfl a1.toNat
        exact c_k_byte hsL (d + 1) (by omega) a1 t K' hIt p1 (fun q1 q2 q3 => hK' _ ⟨r65, Or.inl ⟨q1, q2, q3, rfl⟩⟩) (fun q => hK' _ ⟨by decide, Or.inr ⟨q, rfl⟩⟩)
      · obtain ⟨_, k2, k3⟩ := hK c2 zz t h
        rcases hy.2 with ⟨q1, q2, q3, q4⟩ | ⟨q1, q2⟩
        · rw [q4]
          exact k2 h0 q1 q2 q3
        · rw [q2]
          exact k3 h0 q1
    · refine sx_meth (wr := true) (n := 400) hsL (e := eX11_letter) rfl (w_k_letterY (Q := fun _ _ _ => False) (r := -1) (PW := fun zz t => zz = -1 ∧ t = s) (PB := fun _ _ => False) hI p0 p1 (by decide) (fun K' hK' => c8_hasSol hsL (d + 1) (by omega) s K' hI (fun _ _ => hK') (fun q => absurd q (by omega))) (fun K' hK' => c_k_urN hsL (d + 1) (by omega) a0 s K' hI p0 (by omega) hK') (fun K' hK' => c_k_wrM hsL (d + 1) (by omega) (-1) s K' hI (by decide) (hK' _ _ ⟨rfl, rfl⟩)) (fun zz t h => by have := h.1; omega) (fun zz t h h0 => by have := h.1; omega) (fun y t h => h.elim) (fun zz t h _ => by rw [h.2]; exact hN c2) (fun zz t y h h0 hy => hy.elim))
  · exact sx_meth (wr := true) (n := 400) hsL (e := eX11_letter) rfl (w_k_letterN (Q := fun _ _ _ => False) hI p0 p1 (fun K' hK' => c8_hasSol hsL (d + 1) (by omega) s K' hI (fun q1 q2 => absurd ⟨q1, q2⟩ c) (fun _ => hK')) (hN (fun q => c ⟨q.1, q.2.1⟩)))
theorem w_k_sideN {CALL : sx_Ca} {sL : Nat} {sx : Nat → Int32} {Q : Nat → sx_L → sx_S → Prop} {R : Int → sx_S → Prop} {s : sx_S} {a0 a1 : Int} (hI : cx_I s) (p0 : -2147483648 ≤ a0 ∧ a0 ≤ 2147483647) (p1 : -2147483648 ≤ a1 ∧ a1 ≤ 2147483647) (hc : ∀ K : Int → sx_S → Prop, K 0 s → CALL 147 [.inr (.inl 0)] s K) (hK : R (-1) s) : sx_wp true sL sx eX11_side CALL [] Q R 400 0 (sx_argsF 0 [.inr (.inl 0), .inl a0, .inl a1]) [] s := by
  repeat' (first | (with_reducible (rintro _ rfl)) | (with_reducible intro _) | (refine And.intro ?_ ?_) | (refine hc _ ?_) | (fail))
  all_goals (try dsimp only at *)
  all_goals (first | trivial | assumption | omega | (exfalso; omega) | skip)
theorem w_k_sideY {CALL : sx_Ca} {sL : Nat} {sx : Nat → Int32} {Q : Nat → sx_L → sx_S → Prop} {R : Int → sx_S → Prop} {s : sx_S} {a0 a1 r : Int} {PW : Int → sx_S → Prop} (hI : cx_I s) (p0 : -2147483648 ≤ a0 ∧ a0 ≤ 2147483647) (p1 : -2147483648 ≤ a1 ∧ a1 ≤ 2147483647) (rr : -2147483648 ≤ r ∧ r ≤ 2147483647) (hc : ∀ K : Int → sx_S → Prop, K 1 s → CALL 147 [.inr (.inl 0)] s K) (hr : ∀ K : Int → sx_S → Prop, K r s → CALL 18 [.inr (.inl 18), .inl a0, .inl a1] s K) (hw : ∀ K : Int → sx_S → Prop, (∀ z t, PW z t → K z t) → CALL 123 [.inr (.inl 55), .inl r] s K) (hz : ∀ z t, PW z t → -2147483648 ≤ z ∧ z ≤ 2147483647) (hK : ∀ z t, PW z t → R z t) : sx_wp true sL sx eX11_side CALL [] Q R 400 0 (sx_argsF 0 [.inr (.inl 0), .inl a0, .inl a1]) [] s := by
  repeat' (first | (with_reducible (rintro _ rfl)) | (with_reducible intro _) | (refine And.intro ?_ ?_) | (refine hc _ ?_) | (refine hr _ ?_) | (refine hw _ (fun zz1 zt1 zp1 => ?_); have zr1 := hz zz1 zt1 zp1) | (fail))
  all_goals (try dsimp only at *)
  all_goals (first | trivial | assumption | omega | (exfalso; omega) | (exact hK _ _ zp1) | skip)
theorem c_k_side {sL : Nat} {sx : Nat → Int32} (hsL : sL ≤ 3072) (d : Nat) (hd : 26 ≤ d) : ∀ (a0 a1 : Int) (s : sx_S) (K PW : Int → sx_S → Prop), cx_I s → (-2147483648 ≤ a0 ∧ a0 ≤ 2147483647) → (-2147483648 ≤ a1 ∧ a1 ≤ 2147483647) → (∀ zz t, PW zz t → -1 ≤ zz ∧ zz ≤ 4000) → (s.1 0 2 ≠ 0 ∧ s.1 0 3 = 0 ∧ (0 ≤ a0 ∧ a0 < s.1 18 10) ∧ 0 ≤ a1 ∧ a1 ≤ 1 → ∀ d', 22 ≤ d' → ∀ K' : Int → sx_S → Prop, (∀ zz t, PW zz t → K' zz t) → sx_C sL sx d' 123 [.inr (.inl 55), .inl (s.2.1 26 (2 * a0 + a1).toNat)] s K') → ((s.1 0 2 ≠ 0 ∧ s.1 0 3 = 0 ∧ (0 ≤ a0 ∧ a0 < s.1 18 10) ∧ 0 ≤ a1 ∧ a1 ≤ 1) → ∀ zz t, PW zz t → K zz t) → (¬ (s.1 0 2 ≠ 0 ∧ s.1 0 3 = 0 ∧ (0 ≤ a0 ∧ a0 < s.1 18 10) ∧ 0 ≤ a1 ∧ a1 ≤ 1) → K (-1) s) → sx_C sL sx d 145 [.inr (.inl 0), .inl a0, .inl a1] s K := by
  intro a0 a1 s K PW hI p0 p1 hz hw hK hN
  have r22 := hI.fld 22 2 (by decide) rfl
  have ra := hI.arr 26 (by decide) rfl (2 * a0 + a1).toNat
  obtain ⟨d, rfl⟩ : ∃ e, d = e + 2 := ⟨d - 2, by omega⟩
  by_cases c : s.1 0 2 ≠ 0 ∧ s.1 0 3 = 0
  · by_cases c2 : s.1 0 2 ≠ 0 ∧ s.1 0 3 = 0 ∧ (0 ≤ a0 ∧ a0 < s.1 18 10) ∧ 0 ≤ a1 ∧ a1 ≤ 1
    · exact sx_meth (wr := true) (n := 400) hsL (e := eX11_side) rfl (w_k_sideY (Q := fun _ _ _ => False) (r := (s.2.1 26 (2 * a0 + a1).toNat)) (PW := PW) hI p0 p1 ra (fun K' hK' => c8_hasSol hsL (d + 1) (by omega) s K' hI (fun _ _ => hK') (fun q => absurd q (by omega))) (fun K' hK' => c_dv_rt hsL (d + 1) (by omega) a0 a1 s K' hI (by omega) (by omega) hK') (fun K' hK' => hw c2 (d + 1) (by omega) K' hK') (fun zz t h => by have := hz zz t h; omega) (hK c2))
    · exact sx_meth (wr := true) (n := 400) hsL (e := eX11_side) rfl (w_k_sideY (Q := fun _ _ _ => False) (r := -1) (PW := fun zz t => zz = -1 ∧ t = s) hI p0 p1 (by decide) (fun K' hK' => c8_hasSol hsL (d + 1) (by omega) s K' hI (fun _ _ => hK') (fun q => absurd q (by omega))) (fun K' hK' => c_k_rtN hsL (d + 1) (by omega) a0 a1 s K' hI p0 p1 (by omega) hK') (fun K' hK' => c_k_wrM hsL (d + 1) (by omega) (-1) s K' hI (by decide) (hK' _ _ ⟨rfl, rfl⟩)) (fun zz t h => by have := h.1; omega) (fun zz t h => by rw [h.1, h.2]; exact hN c2))
  · exact sx_meth (wr := true) (n := 400) hsL (e := eX11_side) rfl (w_k_sideN (Q := fun _ _ _ => False) hI p0 p1 (fun K' hK' => c8_hasSol hsL (d + 1) (by omega) s K' hI (fun q1 q2 => absurd ⟨q1, q2⟩ c) (fun _ => hK')) (hN (fun q => c ⟨q.1, q.2.1⟩)))
theorem w_k_sideLetterN {CALL : sx_Ca} {sL : Nat} {sx : Nat → Int32} {Q : Nat → sx_L → sx_S → Prop} {R : Int → sx_S → Prop} {s : sx_S} {a0 a1 a2 : Int} (hI : cx_I s) (p0 : -2147483648 ≤ a0 ∧ a0 ≤ 2147483647) (p1 : -2147483648 ≤ a1 ∧ a1 ≤ 2147483647) (p2 : -2147483648 ≤ a2 ∧ a2 ≤ 2147483647) (hc : ∀ K : Int → sx_S → Prop, K 0 s → CALL 147 [.inr (.inl 0)] s K) (hK : R (-1) s) : sx_wp true sL sx eX11_sideLetter CALL [] Q R 400 0 (sx_argsF 0 [.inr (.inl 0), .inl a0, .inl a1, .inl a2]) [] s := by
  repeat' (first | (with_reducible (rintro _ rfl)) | (with_reducible intro _) | (refine And.intro ?_ ?_) | (refine hc _ ?_) | (fail))
  all_goals (try dsimp only at *)
  all_goals (first | trivial | assumption | omega | (exfalso; omega) | skip)
theorem w_k_sideLetterY {CALL : sx_Ca} {sL : Nat} {sx : Nat → Int32} {Q : Nat → sx_L → sx_S → Prop} {R : Int → sx_S → Prop} {s : sx_S} {a0 a1 a2 r : Int} {PW PB : Int → sx_S → Prop} (hI : cx_I s) (p0 : -2147483648 ≤ a0 ∧ a0 ≤ 2147483647) (p1 : -2147483648 ≤ a1 ∧ a1 ≤ 2147483647) (p2 : -2147483648 ≤ a2 ∧ a2 ≤ 2147483647) (rr : -2147483648 ≤ r ∧ r ≤ 2147483647) (hc : ∀ K : Int → sx_S → Prop, K 1 s → CALL 147 [.inr (.inl 0)] s K) (hr : ∀ K : Int → sx_S → Prop, K r s → CALL 18 [.inr (.inl 18), .inl a0, .inl a1] s K) (hw : ∀ K : Int → sx_S → Prop, (∀ z t, PW z t → K z t) → CALL 123 [.inr (.inl 55), .inl r] s K) (hz : ∀ z t, PW z t → -2147483648 ≤ z ∧ z ≤ 2147483647) (hb : ∀ z t, PW z t → 0 ≤ z → ∀ K : Int → sx_S → Prop, (∀ y, PB y t → K y t) → CALL 122 [.inr (.inl 55), .inl a2] t K) (hy : ∀ y t, PB y t → -2147483648 ≤ y ∧ y ≤ 2147483647) (hK1 : ∀ z t, PW z t → z < 0 → R (-1) t) (hK2 : ∀ z t y, PW z t → 0 ≤ z → PB y t → R y t) : sx_wp true sL sx eX11_sideLetter CALL [] Q R 400 0 (sx_argsF 0 [.inr (.inl 0), .inl a0, .inl a1, .inl a2]) [] s := by
  repeat' (first | (with_reducible (rintro _ rfl)) | (with_reducible intro _) | (refine And.intro ?_ ?_) | (refine hc _ ?_) | (refine hr _ ?_) | (refine hw _ (fun zz1 zt1 zp1 => ?_); have zr1 := hz zz1 zt1 zp1) | (refine hb zz1 zt1 zp1 (by omega) _ (fun zy1 zp2 => ?_); have zr2 := hy zy1 zt1 zp2) | (fail))
  all_goals (try dsimp only at *)
  all_goals (first | trivial | assumption | omega | (exfalso; omega) | (exact hK1 _ _ zp1 (by omega)) | (exact hK2 _ _ _ zp1 (by omega) zp2) | skip)
theorem c_k_sideLetter {sL : Nat} {sx : Nat → Int32} (hsL : sL ≤ 3072) (d : Nat) (hd : 26 ≤ d) : ∀ (a0 a1 a2 : Int) (s : sx_S) (K PW : Int → sx_S → Prop), cx_I s → (-2147483648 ≤ a0 ∧ a0 ≤ 2147483647) → (-2147483648 ≤ a1 ∧ a1 ≤ 2147483647) → (-2147483648 ≤ a2 ∧ a2 ≤ 2147483647) → (∀ zz t, PW zz t → cx_I t ∧ -1 ≤ zz ∧ zz ≤ 4000) → (s.1 0 2 ≠ 0 ∧ s.1 0 3 = 0 ∧ (0 ≤ a0 ∧ a0 < s.1 18 10) ∧ 0 ≤ a1 ∧ a1 ≤ 1 → ∀ d', 22 ≤ d' → ∀ K' : Int → sx_S → Prop, (∀ zz t, PW zz t → K' zz t) → sx_C sL sx d' 123 [.inr (.inl 55), .inl (s.2.1 26 (2 * a0 + a1).toNat)] s K') → ((s.1 0 2 ≠ 0 ∧ s.1 0 3 = 0 ∧ (0 ≤ a0 ∧ a0 < s.1 18 10) ∧ 0 ≤ a1 ∧ a1 ≤ 1) → ∀ zz t, PW zz t → (zz < 0 → K (-1) t) ∧ (0 ≤ zz → 0 ≤ a2 → a2 < t.1 55 10 → a2 < 4000 → K (t.2.1 65 a2.toNat) t) ∧ (0 ≤ zz → (a2 < 0 ∨ t.1 55 10 ≤ a2 ∨ 4000 ≤ a2) → K (-1) t)) → (¬ (s.1 0 2 ≠ 0 ∧ s.1 0 3 = 0 ∧ (0 ≤ a0 ∧ a0 < s.1 18 10) ∧ 0 ≤ a1 ∧ a1 ≤ 1) → K (-1) s) → sx_C sL sx d 146 [.inr (.inl 0), .inl a0, .inl a1, .inl a2] s K := by
  intro a0 a1 a2 s K PW hI p0 p1 p2 hz hw hK hN
  have r22 := hI.fld 22 2 (by decide) rfl
  have ra := hI.arr 26 (by decide) rfl (2 * a0 + a1).toNat
  obtain ⟨d, rfl⟩ : ∃ e, d = e + 2 := ⟨d - 2, by omega⟩
  by_cases c : s.1 0 2 ≠ 0 ∧ s.1 0 3 = 0
  · by_cases c2 : s.1 0 2 ≠ 0 ∧ s.1 0 3 = 0 ∧ (0 ≤ a0 ∧ a0 < s.1 18 10) ∧ 0 ≤ a1 ∧ a1 ≤ 1
    · refine sx_meth (wr := true) (n := 400) hsL (e := eX11_sideLetter) rfl (w_k_sideLetterY (Q := fun _ _ _ => False) (r := (s.2.1 26 (2 * a0 + a1).toNat)) (PW := PW) (PB := fun y t => (-2147483648 ≤ y ∧ y ≤ 2147483647) ∧ ((0 ≤ a2 ∧ a2 < t.1 55 10 ∧ a2 < 4000 ∧ y = t.2.1 65 a2.toNat) ∨ ((a2 < 0 ∨ t.1 55 10 ≤ a2 ∨ 4000 ≤ a2) ∧ y = -1))) hI p0 p1 p2 ra (fun K' hK' => c8_hasSol hsL (d + 1) (by omega) s K' hI (fun _ _ => hK') (fun q => absurd q (by omega))) (fun K' hK' => c_dv_rt hsL (d + 1) (by omega) a0 a1 s K' hI (by omega) (by omega) hK') (fun K' hK' => hw c2 (d + 1) (by omega) K' hK') (fun zz t h => by have := hz zz t h; omega) (fun zz t h h0 K' hK' => ?_) (fun y t h => h.1) (fun zz t h h0 => (hK c2 zz t h).1 h0) (fun zz t y h h0 hy => ?_))
      · have hIt := (hz zz t h).1
        have r65 := hIt.arr 65 (by decide) rfl a2.toNat
        exact c_k_byte hsL (d + 1) (by omega) a2 t K' hIt p2 (fun q1 q2 q3 => hK' _ ⟨r65, Or.inl ⟨q1, q2, q3, rfl⟩⟩) (fun q => hK' _ ⟨by decide, Or.inr ⟨q, rfl⟩⟩)
      · obtain ⟨_, k2, k3⟩ := hK c2 zz t h
        rcases hy.2 with ⟨q1, q2, q3, q4⟩ | ⟨q1, q2⟩
        · rw [q4]
          exact k2 h0 q1 q2 q3
        · rw [q2]
          exact k3 h0 q1
    · refine sx_meth (wr := true) (n := 400) hsL (e := eX11_sideLetter) rfl (w_k_sideLetterY (Q := fun _ _ _ => False) (r := -1) (PW := fun zz t => zz = -1 ∧ t = s) (PB := fun _ _ => False) hI p0 p1 p2 (by decide) (fun K' hK' => c8_hasSol hsL (d + 1) (by omega) s K' hI (fun _ _ => hK') (fun q => absurd q (by omega))) (fun K' hK' => c_k_rtN hsL (d + 1) (by omega) a0 a1 s K' hI p0 p1 (by omega) hK') (fun K' hK' => c_k_wrM hsL (d + 1) (by omega) (-1) s K' hI (by decide) (hK' _ _ ⟨rfl, rfl⟩)) (fun zz t h => by have := h.1; omega) (fun zz t h h0 => by have := h.1; omega) (fun y t h => h.elim) (fun zz t h _ => by rw [h.2]; exact hN c2) (fun zz t y h h0 hy => hy.elim))
  · exact sx_meth (wr := true) (n := 400) hsL (e := eX11_sideLetter) rfl (w_k_sideLetterN (Q := fun _ _ _ => False) hI p0 p1 p2 (fun K' hK' => c8_hasSol hsL (d + 1) (by omega) s K' hI (fun q1 q2 => absurd ⟨q1, q2⟩ c) (fun _ => hK')) (hN (fun q => c ⟨q.1, q.2.1⟩)))
