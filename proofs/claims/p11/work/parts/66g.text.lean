/-! ===== the bytes of the whole text ===== -/
def vl_P5 (K : Nat → Int) (P : Nat → Nat) : Prop := vl_P K P ∧ (∀ i, K i = 5 → P i + 2 ≤ P (i + 1) ∧ (K (i + 1) = 2 → P i + 3 ≤ P (i + 1))) ∧ ∀ i, K i = 4 → K (i + 1) = 2 → P i + 4 ≤ P (i + 1)
theorem vl_rn_stop {p : Int → Bool} {b : Nat → Int} {n : Int} : ∀ (f : Nat) (k : Int), (n - k).toNat ≤ f → ¬ (px_rn p b n f k < n ∧ p (b (px_rn p b n f k).toNat) = true)
  | 0, k, h, ⟨h1, _⟩ => by
    have h1' : k < n := h1
    omega
  | f + 1, k, h, hh => by
    rw [px_rn] at hh
    by_cases q : k < n ∧ p (b k.toNat) = true
    · rw [if_pos q] at hh
      exact vl_rn_stop f (k + 1) (by omega) hh
    · rw [if_neg q] at hh
      exact q hh
theorem vl_ps_le {b : Nat → Int} {n : Int} (hn : 0 ≤ n) : ∀ i, 0 ≤ px_ps b n i ∧ px_ps b n i ≤ n
  | 0 => ⟨px_ru_ge, px_ru_le hn⟩
  | i + 1 => by
    obtain ⟨h1, h2⟩ := vl_ps_le (b := b) hn i
    have h3 : px_ps b n i ≤ px_en b n (px_ps b n i) := by
      by_cases q : px_ps b n i < n
      · have := px_en_gt (b := b) q
        omega
      · unfold px_en
        rw [if_pos (by omega)]
        exact Int.le_refl _
    have h4 : px_en b n (px_ps b n i) ≤ px_ps b n (i + 1) := px_ru_ge
    exact ⟨by omega, px_ru_le (px_en_le h2)⟩
/-- words: where they end -/
theorem vl_word {b : Nat → Int} {n : Int} (hn : 0 ≤ n) {i : Nat} (hw : px_K b n i = 2 ∨ px_K b n i = 4 ∨ px_K b n i = 5) : px_ps b n i < n ∧ ∃ e, px_ps b n i + 1 ≤ e ∧ (px_K b n i = 4 → e = px_ps b n i + 3) ∧ (px_K b n i = 5 → e = px_ps b n i + 2) ∧ e ≤ px_ps b n (i + 1) ∧ (px_K b n (i + 1) = 2 → e + 1 ≤ px_ps b n (i + 1)) := by
  obtain ⟨h1, h2⟩ := vl_ps_le (b := b) hn i
  have hk : px_K b n i = px_kd b n (px_ps b n i) := rfl
  have lt : px_ps b n i < n := by
    apply Classical.byContradiction
    intro q
    unfold px_kd at hk
    rw [if_pos (by omega)] at hk
    omega
  have hle : px_le (b (px_ps b n i).toNat) := by
    apply Classical.byContradiction
    intro q
    unfold px_kd at hk
    rw [if_neg (by omega), if_neg q] at hk
    unfold px_sg at hk
    by_cases c1 : b (px_ps b n i).toNat = 45
    · rw [if_pos c1] at hk
      by_cases c2 : px_ps b n i + 1 < n ∧ b (px_ps b n i + 1).toNat = 62
      · rw [if_pos c2] at hk
        omega
      · rw [if_neg c2] at hk
        omega
    · rw [if_neg c1] at hk
      unfold px_s7 at hk
      (repeat' split at hk) <;> omega
  have e1 : px_kd b n (px_ps b n i) = px_wk b (px_ps b n i) (px_ru px_wdb b n (px_ps b n i)) := by
    unfold px_kd
    rw [if_neg (by omega), if_pos hle]
  have e2 : px_en b n (px_ps b n i) = px_ru px_wdb b n (px_ps b n i) := by
    unfold px_en
    rw [if_neg (by omega), if_pos hle]
  have e3 : px_ps b n (i + 1) = px_ru px_blb b n (px_en b n (px_ps b n i)) := rfl
  rw [e1] at hk
  rw [e2] at e3
  have stop : ¬ (px_ru px_wdb b n (px_ps b n i) < n ∧ px_wdb (b (px_ru px_wdb b n (px_ps b n i)).toNat) = true) := vl_rn_stop _ _ (Nat.le_refl _)
  have gt := px_en_gt (b := b) lt
  rw [e2] at gt
  have ge : px_ru px_wdb b n (px_ps b n i) ≤ px_ps b n (i + 1) := by
    rw [e3]
    exact px_ru_ge
  refine ⟨lt, px_ru px_wdb b n (px_ps b n i), by omega, fun q => ?_, fun q => ?_, ge, fun q => ?_⟩
  · rw [q] at hk
    unfold px_wk at hk
    by_cases c : 8 < px_ru px_wdb b n (px_ps b n i) - px_ps b n i
    · rw [if_pos c] at hk
      omega
    · rw [if_neg c] at hk
      cases c1 : px_wq 1 b (px_ps b n i) (px_ru px_wdb b n (px_ps b n i)) with
      | true =>
        rw [c1] at hk
        have hk' : (4 : Int) = 3 := hk
        omega
      | false =>
        rw [c1] at hk
        cases c2 : px_wq 2 b (px_ps b n i) (px_ru px_wdb b n (px_ps b n i)) with
        | true =>
          have := (of_decide_eq_true c2).1
          omega
        | false =>
          rw [c2] at hk
          exfalso
          revert hk
          cases px_wq 3 b (px_ps b n i) (px_ru px_wdb b n (px_ps b n i)) <;> cases px_wq 4 b (px_ps b n i) (px_ru px_wdb b n (px_ps b n i)) <;> cases px_wq 5 b (px_ps b n i) (px_ru px_wdb b n (px_ps b n i)) <;> decide
  · rw [q] at hk
    unfold px_wk at hk
    by_cases c : 8 < px_ru px_wdb b n (px_ps b n i) - px_ps b n i
    · rw [if_pos c] at hk
      omega
    · rw [if_neg c] at hk
      cases c3 : px_wq 3 b (px_ps b n i) (px_ru px_wdb b n (px_ps b n i)) with
      | true =>
        have := (of_decide_eq_true c3).1
        omega
      | false =>
        rw [c3] at hk
        exfalso
        revert hk
        cases px_wq 1 b (px_ps b n i) (px_ru px_wdb b n (px_ps b n i)) <;> cases px_wq 2 b (px_ps b n i) (px_ru px_wdb b n (px_ps b n i)) <;> cases px_wq 4 b (px_ps b n i) (px_ru px_wdb b n (px_ps b n i)) <;> cases px_wq 5 b (px_ps b n i) (px_ru px_wdb b n (px_ps b n i)) <;> decide
  · apply Classical.byContradiction
    intro c
    have ee : px_ps b n (i + 1) = px_ru px_wdb b n (px_ps b n i) := by omega
    have hk2 : px_K b n (i + 1) = px_kd b n (px_ps b n (i + 1)) := rfl
    rw [q, ee] at hk2
    unfold px_kd at hk2
    by_cases c1 : n ≤ px_ru px_wdb b n (px_ps b n i)
    · rw [if_pos c1] at hk2
      omega
    · rw [if_neg c1] at hk2
      by_cases c2 : px_le (b (px_ru px_wdb b n (px_ps b n i)).toNat)
      · exact stop ⟨by omega, decide_eq_true (Or.inl c2)⟩
      · rw [if_neg c2] at hk2
        unfold px_sg at hk2
        by_cases c3 : b (px_ru px_wdb b n (px_ps b n i)).toNat = 45
        · rw [if_pos c3] at hk2
          by_cases c4 : px_ru px_wdb b n (px_ps b n i) + 1 < n ∧ b (px_ru px_wdb b n (px_ps b n i) + 1).toNat = 62
          · rw [if_pos c4] at hk2
            omega
          · rw [if_neg c4] at hk2
            omega
        · rw [if_neg c3] at hk2
          unfold px_s7 at hk2
          (repeat' split at hk2) <;> omega
theorem vl_P5_ps {b : Nat → Int} {n : Int} (hn : 0 ≤ n) : vl_P5 (px_K b n) (fun i => (px_ps b n i).toNat) := by
  refine ⟨⟨fun i hi => ?_, fun i h1 h2 => ?_⟩, fun i h1 => ?_, fun i h1 h2 => ?_⟩
  · obtain ⟨h1, h2⟩ := vl_ps_le (b := b) hn i
    have lt : px_ps b n i < n := by
      apply Classical.byContradiction
      intro q
      have hk : px_K b n i = px_kd b n (px_ps b n i) := rfl
      unfold px_kd at hk
      rw [if_pos (by omega)] at hk
      omega
    have h3 := px_en_gt (b := b) lt
    have h4 : px_en b n (px_ps b n i) ≤ px_ps b n (i + 1) := px_ru_ge
    dsimp only
    omega
  · obtain ⟨lt, e, e1, _, _, e4, e5⟩ := vl_word hn (Or.inl h1)
    have := e5 h2
    have := (vl_ps_le (b := b) hn i).1
    dsimp only
    omega
  · obtain ⟨lt, e, e1, _, e3, e4, e5⟩ := vl_word hn (Or.inr (Or.inr h1))
    have := e3 h1
    have := (vl_ps_le (b := b) hn i).1
    dsimp only
    exact ⟨by omega, fun q => by have := e5 q; omega⟩
  · obtain ⟨lt, e, e1, e2, _, e4, e5⟩ := vl_word hn (Or.inr (Or.inl h1))
    have := e2 h1
    have := e5 h2
    have := (vl_ps_le (b := b) hn i).1
    dsimp only
    omega
theorem px_TY_P2 {K : Nat → Int} {P : Nat → Nat} (hP : vl_P K P) : ∀ {f : Nat} {a : Int} {x : qx_T} {c : Int}, 0 ≤ a → px_TY K f a x c → 2 ≤ qx_at x → P a.toNat + 3 ≤ P c.toNat
  | 0, _, _, _, _, h, _ => h.elim
  | f + 1, a, x, c, ha, h, h2 => by
    obtain ⟨y, e, h1, h3⟩ := h
    have k1 : a + 1 ≤ e ∧ P a.toNat + 1 ≤ P e.toNat ∧ (2 ≤ qx_at y → P a.toNat + 3 ≤ P e.toNat) := by
      rcases h1 with ⟨q1, q2, q3⟩ | ⟨q1, q2, q3⟩ | ⟨q1, g, q2, q3, q4⟩
      · refine ⟨by omega, vl_P1 hP ha q1 (by decide) q3, fun z => ?_⟩
        rw [q2] at z
        exact absurd z (by decide)
      · refine ⟨by omega, vl_P1 hP ha q1 (by decide) q3, fun z => ?_⟩
        rw [q2] at z
        exact absurd z (by decide)
      · obtain ⟨i1, i2⟩ := px_TY_P hP (by omega) q2
        have j1 := vl_P1 hP ha q1 (by decide) (b := a + 1) rfl
        have j2 := vl_P1 hP (a := g) (by omega) q3 (by decide) q4
        exact ⟨by omega, by omega, fun _ => by omega⟩
    obtain ⟨k1, k2, k3⟩ := k1
    rcases h3 with ⟨q1, w, q2, _⟩ | ⟨_, q2, q3⟩
    · have j1 := vl_P1 hP (a := e) (by omega) q1 (by decide) (b := e + 1) rfl
      obtain ⟨i1, i2⟩ := px_TY_P hP (by omega) q2
      omega
    · rw [q3]
      rw [q2] at h2
      exact k3 h2
