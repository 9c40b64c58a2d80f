/-! ===== long forms against the bytes of the text: by the tokens ===== -/
/-- where the tokens stand -/
def vl_P (K : Nat → Int) (P : Nat → Nat) : Prop := (∀ i, 2 ≤ K i → P i + 1 ≤ P (i + 1)) ∧ ∀ i, K i = 2 → K (i + 1) = 2 → P i + 2 ≤ P (i + 1)
def vl_row (K : Nat → Int) (T : Int → px_N → Int → Prop) : px_N → Int → Int → Prop
  | .leaf, a, c => a = c
  | .inner g q _ f n, a, c => ∃ e, ((K a.toNat = 9 ∧ ∃ e', T (a + 1) (.inner g q () f .leaf) e' ∧ K e'.toNat = 10 ∧ e = e' + 1) ∨ (K a.toNat = 2 ∧ g = 1 ∧ f = .leaf ∧ e = a + 1)) ∧ vl_row K T n e c
theorem vl_snoc_leaf : ∀ {r : px_N}, px_snoc r .leaf = r
  | .leaf => rfl
  | .inner j k u f x => congrArg (fun z => (.inner j k u f z : px_N)) vl_snoc_leaf
theorem vl_snoc_assoc {s t : px_N} : ∀ {r : px_N}, px_snoc (px_snoc r s) t = px_snoc r (px_snoc s t)
  | .leaf => rfl
  | .inner j k u f x => congrArg (fun z => (.inner j k u f z : px_N)) vl_snoc_assoc
theorem vl_ARg_row {K : Nat → Int} {T : Int → px_N → Int → Prop} (hT : ∀ a t e, T a t e → ∃ g q f, t = .inner g q () f .leaf) : ∀ {g : Nat} {a : Int} {r r' : px_N} {c : Int}, px_ARg K T g a r r' c → ∃ r2, r' = px_snoc r r2 ∧ vl_row K T r2 a c
  | 0, _, _, _, _, h => h.elim
  | g + 1, a, r, r', c, h => by
    rcases h with ⟨h1, t, e, h2, h3, h4⟩ | ⟨h1, h2⟩ | ⟨_, _, h3, h4⟩
    · obtain ⟨r2, e1, e2⟩ := vl_ARg_row hT h4
      obtain ⟨g', q, f, rfl⟩ := hT _ _ _ h2
      refine ⟨.inner g' q () f r2, ?_, e + 1, Or.inl ⟨h1, e, h2, h3, rfl⟩, e2⟩
      rw [e1, vl_snoc_assoc]
      rfl
    · obtain ⟨r2, e1, e2⟩ := vl_ARg_row hT h2
      refine ⟨.inner 1 (a, .leaf) () .leaf r2, ?_, a + 1, Or.inr ⟨h1, rfl, rfl, rfl⟩, e2⟩
      rw [e1, vl_snoc_assoc]
      rfl
    · exact ⟨.leaf, by rw [h3, vl_snoc_leaf], h4.symm⟩
theorem px_TM_one {K : Nat → Int} : ∀ {f : Nat} {a : Int} {t : px_N} {c : Int}, px_TM K f a t c → ∃ g q h, t = .inner g q () h .leaf
  | 0, _, _, _, h => h.elim
  | f + 1, a, t, c, h => by
    rcases h with ⟨_, _, _, x, e, _, _, u, _, h⟩ | ⟨_, r, _, h⟩
    · exact ⟨_, _, _, h⟩
    · exact ⟨_, _, _, h⟩
section
variable {K : Nat → Int} {P : Nat → Nat}
theorem vl_P1 (hP : vl_P K P) {a b : Int} {k : Int} (ha : 0 ≤ a) (hk : K a.toNat = k) (h2 : 2 ≤ k) (hb : b = a + 1) : P a.toNat + 1 ≤ P b.toNat := by
  have := hP.1 a.toNat (by omega)
  rw [hb, show (a + 1).toNat = a.toNat + 1 by omega]
  exact this
theorem px_TY_P (hP : vl_P K P) : ∀ {f : Nat} {a : Int} {x : qx_T} {c : Int}, 0 ≤ a → px_TY K f a x c → a + 1 ≤ c ∧ P a.toNat + 1 ≤ P c.toNat
  | 0, _, _, _, _, h => h.elim
  | f + 1, a, x, c, ha, h => by
    obtain ⟨y, e, h1, h2⟩ := h
    have k1 : a + 1 ≤ e ∧ P a.toNat + 1 ≤ P e.toNat := by
      rcases h1 with ⟨q1, _, q3⟩ | ⟨q1, _, q3⟩ | ⟨q1, g, q2, q3, q4⟩
      · exact ⟨by omega, vl_P1 hP ha q1 (by decide) q3⟩
      · exact ⟨by omega, vl_P1 hP ha q1 (by decide) q3⟩
      · obtain ⟨i1, i2⟩ := px_TY_P hP (by omega) q2
        have j1 := vl_P1 hP ha q1 (by decide) (b := a + 1) rfl
        have j2 := vl_P1 hP (a := g) (by omega) q3 (by decide) q4
        exact ⟨by omega, by omega⟩
    rcases h2 with ⟨q1, w, q2, _⟩ | ⟨_, _, q3⟩
    · have j1 := vl_P1 hP (a := e) (by omega) q1 (by decide) (b := e + 1) rfl
      obtain ⟨i1, i2⟩ := px_TY_P hP (by omega) q2
      exact ⟨by omega, by omega⟩
    · rw [q3]
      exact k1
theorem vl_row_P (hP : vl_P K P) {T : Int → px_N → Int → Prop} (hT : ∀ a t e, 0 ≤ a → T a t e → a + 1 ≤ e ∧ P a.toNat + 1 ≤ P e.toNat) : ∀ {r : px_N} {a c : Int}, 0 ≤ a → vl_row K T r a c → a ≤ c ∧ P a.toNat ≤ P c.toNat ∧ (r ≠ .leaf → P a.toNat + 1 ≤ P c.toNat ∧ (K a.toNat ≠ 2 → P a.toNat + 3 ≤ P c.toNat))
  | .leaf, a, c, ha, h => by
    have h' : a = c := h
    rw [h']
    exact ⟨Int.le_refl _, Nat.le_refl _, fun q => absurd rfl q⟩
  | .inner g q u f n, a, c, ha, ⟨e, h1, h2⟩ => by
    rcases h1 with ⟨k1, e', k2, k3, k4⟩ | ⟨k1, _, _, k4⟩
    · obtain ⟨i1, i2⟩ := hT _ _ _ (by omega) k2
      have j1 := vl_P1 hP ha k1 (by decide) (b := a + 1) rfl
      have j2 := vl_P1 hP (a := e') (by omega) k3 (by decide) k4
      obtain ⟨r1, r2, _⟩ := vl_row_P hP hT (by omega) h2
      exact ⟨by omega, by omega, fun _ => ⟨by omega, fun _ => by omega⟩⟩
    · have j1 := vl_P1 hP ha k1 (by decide) k4
      obtain ⟨r1, r2, _⟩ := vl_row_P hP hT (by omega) h2
      exact ⟨by omega, by omega, fun _ => ⟨by omega, fun z => absurd k1 z⟩⟩
theorem px_TM_P (hP : vl_P K P) : ∀ {f : Nat} {a : Int} {t : px_N} {c : Int}, 0 ≤ a → px_TM K f a t c → a + 1 ≤ c ∧ P a.toNat + 1 ≤ P c.toNat
  | 0, _, _, _, _, h => h.elim
  | f + 1, a, t, c, ha, h => by
    rcases h with ⟨k1, k2, k3, x, e, h1, k4, u, h2, _⟩ | ⟨k1, r, ⟨g, h1⟩, _⟩
    · have j1 := vl_P1 hP ha k1 (by decide) (b := a + 1) rfl
      have j2 := vl_P1 hP (a := a + 1) (by omega) k2 (by decide) (b := a + 2) (by omega)
      have j3 := vl_P1 hP (a := a + 2) (by omega) k3 (by decide) (b := a + 3) (by omega)
      obtain ⟨t1, t2⟩ := px_TY_P hP (by omega) h1
      have j4 := vl_P1 hP (a := e) (by omega) k4 (by decide) (b := e + 1) rfl
      obtain ⟨i1, i2⟩ := px_TM_P hP (by omega) h2
      exact ⟨by omega, by omega⟩
    · obtain ⟨r2, _, hr⟩ := vl_ARg_row (fun _ _ _ => px_TM_one) h1
      have j1 := vl_P1 hP ha k1 (by decide) (b := a + 1) rfl
      obtain ⟨r1, r2, _⟩ := vl_row_P hP (fun a t e ha h => px_TM_P hP ha h) (by omega) hr
      exact ⟨by omega, by omega⟩
end
