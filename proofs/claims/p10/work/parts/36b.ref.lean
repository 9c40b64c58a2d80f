/-! ===== the reference compares types and names, exactly ===== -/
theorem qx_ty_a {L R : Nat → Int} {N : Int} : ∀ {x : qx_T} {t : Int}, qx_ty L R N x t → 2 ≤ t → ∃ x1 x2, x = qx_a x1 x2 ∧ qx_ty L R N x1 (L t.toNat) ∧ qx_ty L R N x2 (R t.toNat)
  | .leaf, t, h, ht => by
    have h0 : t = 0 := h
    omega
  | .inner j k _ x y, t, h, ht => by
    obtain ⟨h0, h⟩ := h
    subst h0
    rcases h with ⟨_, _, _, h⟩ | ⟨h1, _, h3, h4⟩
    · omega
    · exact ⟨x, y, by rw [h1], h3, h4⟩
theorem qx_ty_01 {L R : Nat → Int} {N : Int} : ∀ {x : qx_T} {t : Int}, qx_ty L R N x t → 0 ≤ t ∧ (t = 0 → x = qx_o) ∧ (t = 1 → x = qx_i) ∧ (x = qx_o → t = 0) ∧ (x = qx_i → t = 1) ∧ (2 ≤ t → t < N)
  | .leaf, t, h => by
    have h0 : t = 0 := h
    exact ⟨by omega, fun _ => rfl, fun q => by omega, fun _ => h0, fun q => (by cases q), fun q => by omega⟩
  | .inner j k u x y, t, h => by
    obtain ⟨h0, h⟩ := h
    subst h0
    rcases h with ⟨h1, h2, h3, h4⟩ | ⟨h1, h2, h3, h4⟩
    · refine ⟨by omega, fun q => by omega, fun _ => by rw [h1, h2, h3], fun q => (by cases q), fun _ => h4, fun q => by omega⟩
    · refine ⟨by omega, fun q => by omega, fun q => by omega, fun q => (by cases q), fun q => ?_, fun _ => h2.2⟩
      rw [h1] at q
      cases q
theorem qx_ty_b {L R : Nat → Int} {N : Int} {x y : qx_T} {a b : Int} (hx : qx_ty L R N x a) (hy : qx_ty L R N y b) (h : a < 2 ∨ b < 2) : x = y ↔ a = b := by
  constructor
  · intro e
    subst e
    obtain ⟨a1, a2, a3, a4, a5, _⟩ := qx_ty_01 hx
    obtain ⟨b1, b2, b3, b4, b5, _⟩ := qx_ty_01 hy
    rcases h with h | h
    · by_cases q : a = 0
      · rw [q, b4 (a2 q)]
      · have q1 : a = 1 := by omega
        rw [q1, b5 (a3 q1)]
    · by_cases q : b = 0
      · rw [q, a4 (b2 q)]
      · have q1 : b = 1 := by omega
        rw [q1, a5 (b3 q1)]
  · intro e
    subst e
    exact qx_ty_fun hx hy
theorem w_q_same {CALL : sx_Ca} {sL : Nat} {sx : Nat → Int32} {Q : Nat → sx_L → sx_S → Prop} {R : Int → sx_S → Prop} {s : sx_S} {a b : Int} {E1 E2 : Prop} (hI : cx_I s) (ha : 0 ≤ a ∧ a ≤ 5999) (hb : 0 ≤ b ∧ b ≤ 5999) (hS1 : 2 ≤ a → 2 ≤ b → ∀ K : Int → sx_S → Prop, (E1 → K 1 s) → (¬ E1 → K 0 s) → CALL 166 [.inr (.inl 66), .inl (s.2.1 72 a.toNat), .inl (s.2.1 72 b.toNat)] s K) (hS2 : 2 ≤ a → 2 ≤ b → ∀ K : Int → sx_S → Prop, (E2 → K 1 s) → (¬ E2 → K 0 s) → CALL 166 [.inr (.inl 66), .inl (s.2.1 73 a.toNat), .inl (s.2.1 73 b.toNat)] s K) (hK1 : (a < 2 ∨ b < 2) → a = b → R 1 s) (hK0 : (a < 2 ∨ b < 2) → a ≠ b → R 0 s) (hK2 : 2 ≤ a → 2 ≤ b → E1 → E2 → R 1 s) (hK3 : 2 ≤ a → 2 ≤ b → ¬ (E1 ∧ E2) → R 0 s) : sx_wp true sL sx eX12_same CALL [] Q R 400 0 (sx_argsF 0 [.inr (.inl 66), .inl a, .inl b]) [] s := by
  repeat' (first | (with_reducible (rintro _ rfl)) | (with_reducible intro _) | (refine And.intro ?_ ?_) | (refine hS1 (by omega) (by omega) _ ?_ ?_) | (refine hS2 (by omega) (by omega) _ ?_ ?_))
  all_goals (try dsimp only at *)
  all_goals (first | trivial | omega | (exfalso; omega) | (exact hK1 (by omega) (by omega)) | (exact hK0 (by omega) (by omega)) | (exact hK2 (by omega) (by omega) (by assumption) (by assumption)) | (refine hK3 (by omega) (by omega) (fun zz9 => ?_); first | exact (by assumption : ¬ E1) zz9.1 | exact (by assumption : ¬ E2) zz9.2) | skip)
theorem c_q_same {sL : Nat} {sx : Nat → Int32} (hsL : sL ≤ 3072) : ∀ (x : qx_T) (d : Nat), rf_hx (qx_sh x) + 2 ≤ d → ∀ (y : qx_T) (a b : Int) (s : sx_S) (K : Int → sx_S → Prop), cx_I s → (2 ≤ s.1 66 9 ∧ s.1 66 9 ≤ 6000) → qx_is s x a → qx_is s y b → (x = y → K 1 s) → (x ≠ y → K 0 s) → sx_C sL sx d 166 [.inr (.inl 66), .inl a, .inl b] s K
  | .leaf, d, hd, y, a, b, s, K, hI, h9, hx, hy, h1, h0 => by
    obtain ⟨d, rfl⟩ : ∃ e, d = e + 2 := ⟨d - 2, by omega⟩
    have ea : a = 0 := hx
    have hb := qx_ty_01 hy
    exact sx_meth (wr := true) (n := 400) hsL (e := eX12_same) rfl (w_q_same (Q := fun _ _ _ => False) (E1 := True) (E2 := True) hI ⟨by omega, by omega⟩ ⟨hb.1, by have := hb.2.2.2.2.2; omega⟩ (fun q => absurd q (by omega)) (fun q => absurd q (by omega)) (fun q e => h1 ((qx_ty_b hx hy q).mpr e)) (fun q e => h0 (fun z => e ((qx_ty_b hx hy q).mp z))) (fun q => absurd q (by omega)) (fun q => absurd q (by omega)))
  | .inner j k u x1 x2, d, hd, y, a, b, s, K, hI, h9, hx, hy, h1, h0 => by
    obtain ⟨d, rfl⟩ : ∃ e, d = e + 2 := ⟨d - 2, by omega⟩
    have ha := qx_ty_01 hx
    have hb := qx_ty_01 hy
    have hx0 := hx
    obtain ⟨hj, hx⟩ := hx
    subst hj
    cases k with
    | true =>
      have ea : a = 1 := by
        rcases hx with ⟨_, _, _, e⟩ | ⟨e, _⟩
        · exact e
        · cases e
      exact sx_meth (wr := true) (n := 400) hsL (e := eX12_same) rfl (w_q_same (Q := fun _ _ _ => False) (E1 := True) (E2 := True) hI ⟨by omega, by omega⟩ ⟨hb.1, by have := hb.2.2.2.2.2; omega⟩ (fun q => absurd q (by omega)) (fun q => absurd q (by omega)) (fun q e => h1 ((qx_ty_b hx0 hy q).mpr e)) (fun q e => h0 (fun z => e ((qx_ty_b hx0 hy q).mp z))) (fun q => absurd q (by omega)) (fun q => absurd q (by omega)))
    | false =>
      have hx' : (2 ≤ a ∧ a < s.1 66 9) ∧ qx_is s x1 (s.2.1 72 a.toNat) ∧ qx_is s x2 (s.2.1 73 a.toNat) := by
        rcases hx with ⟨e, _⟩ | ⟨_, e⟩
        · cases e
        · exact e
      have hh : rf_hx (qx_sh (.inner 0 false u x1 x2)) = max (rf_hx (qx_sh x1)) (rf_hx (qx_sh x2)) + 1 := rfl
      rw [hh] at hd
      refine sx_meth (wr := true) (n := 400) hsL (e := eX12_same) rfl (w_q_same (Q := fun _ _ _ => False) (E1 := ∀ y1 y2, y = qx_a y1 y2 → x1 = y1) (E2 := ∀ y1 y2, y = qx_a y1 y2 → x2 = y2) hI ⟨by omega, by omega⟩ ⟨hb.1, by have := hb.2.2.2.2.2; omega⟩ ?_ ?_ (fun q e => h1 ((qx_ty_b hx0 hy q).mpr e)) (fun q e => h0 (fun z => e ((qx_ty_b hx0 hy q).mp z))) ?_ ?_)
      · intro _ q2 K' k1 k0
        obtain ⟨y1, y2, e, g1, g2⟩ := qx_ty_a hy q2
        refine c_q_same hsL x1 (d + 1) (by omega) y1 _ _ s K' hI h9 hx'.2.1 g1 (fun z => k1 (fun z1 z2 e' => ?_)) (fun z => k0 (fun h => z (h y1 y2 e)))
        rw [z]
        exact (qx_a_inj (e.symm.trans e')).1
      · intro _ q2 K' k1 k0
        obtain ⟨y1, y2, e, g1, g2⟩ := qx_ty_a hy q2
        refine c_q_same hsL x2 (d + 1) (by omega) y2 _ _ s K' hI h9 hx'.2.2 g2 (fun z => k1 (fun z1 z2 e' => ?_)) (fun z => k0 (fun h => z (h y1 y2 e)))
        rw [z]
        exact (qx_a_inj (e.symm.trans e')).2
      · intro _ q2 e1 e2
        obtain ⟨y1, y2, e, g1, g2⟩ := qx_ty_a hy q2
        refine h1 ?_
        rw [e, ← e1 y1 y2 e, ← e2 y1 y2 e]
      · intro _ q2 hn
        refine h0 (fun e => hn ⟨fun y1 y2 e' => ?_, fun y1 y2 e' => ?_⟩)
        · rw [← e] at e'
          cases e'
          rfl
        · rw [← e] at e'
          cases e'
          rfl

/-- the tokens, as names are compared -/
def px_TN (b : Nat → Int) (n m : Int) (s : sx_S) : Prop := True → s.2.1 68 = b ∧ s.1 66 3 = n ∧ px_RT b n m s
abbrev px_SN (b : Nat → Int) (n : Int) : Int → Int → Prop := fun i j => px_sn b n i.toNat j.toNat
/-- the declared names of one sort: their tokens, their types -/
def px_DL (p q f : Nat) (m : Int) (s : sx_S) (L : List (Int × qx_T)) : Prop := True → (L.length : Int) = s.1 66 f ∧ ∀ k : Nat, k < L.length → ∃ e, L[k]? = some e ∧ s.2.1 p k = e.1 ∧ (0 ≤ e.1 ∧ e.1 < m) ∧ qx_is s e.2 (s.2.1 q k)
/-- none of the first k is called so -/
def px_n1 (SN : Int → Int → Prop) (L : List (Int × qx_T)) (a k : Int) : Prop := ∀ j : Nat, (j : Int) < k → ∀ e, L[j]? = some e → ¬ SN e.1 a
theorem px_n1_0 {SN : Int → Int → Prop} {L : List (Int × qx_T)} {a k : Int} (h : k ≤ 0) : px_n1 SN L a k := fun j hj => by omega
theorem px_n1_up {SN : Int → Int → Prop} {L : List (Int × qx_T)} {a k k' : Int} (h : px_n1 SN L a k) (h0 : 0 ≤ k) (e : k' = k + 1) (hn : ∀ e, L[k.toNat]? = some e → ¬ SN e.1 a) : px_n1 SN L a k' := fun j hj e' he => by
  by_cases q : (j : Int) < k
  · exact h j q e' he
  · have : j = k.toNat := by omega
    subst this
    exact hn e' he
theorem px_n1_nv {SN : Int → Int → Prop} {L : List (Int × qx_T)} {a k : Int} (h : px_n1 SN L a k) (hk : (L.length : Int) ≤ k) : px_nv SN L a := fun e he => by
  obtain ⟨j, hj⟩ := List.mem_iff_getElem?.mp he
  have := (List.getElem?_eq_some_iff.mp hj).1
  exact h j (by omega) e hj
theorem px_cf_at {SN : Int → Int → Prop} {a : Int} : ∀ {L : List (Int × qx_T)} {k : Nat} {e : Int × qx_T}, L[k]? = some e → SN e.1 a → (∀ j, j < k → ∀ e', L[j]? = some e' → ¬ SN e'.1 a) → px_cf SN L a k e.2
  | [], _, _, h, _, _ => by cases h
  | q :: L, 0, e, h, hs, _ => by
    cases h
    exact Or.inl ⟨hs, rfl, rfl⟩
  | q :: L, k + 1, e, h, hs, hn => Or.inr ⟨hn 0 (Nat.succ_pos _) q rfl, k, rfl, px_cf_at (L := L) h hs (fun j hj e' he => hn (j + 1) (by omega) e' he)⟩
theorem px_cf_x {SN : Int → Int → Prop} {L : List (Int × qx_T)} {a k : Int} (h : px_n1 SN L a k) (h0 : 0 ≤ k) (hk : k < (L.length : Int)) (hs : ∀ e, L[k.toNat]? = some e → SN e.1 a) : ∃ x, px_cf SN L a k.toNat x := by
  have hl : k.toNat < L.length := by omega
  exact ⟨_, px_cf_at (List.getElem?_eq_getElem hl) (hs _ (List.getElem?_eq_getElem hl)) (fun j hj e' he => h j (by omega) e' he)⟩
theorem px_DL_tok {p q f : Nat} {m : Int} {s : sx_S} {L : List (Int × qx_T)} (h : px_DL p q f m s L) {k : Int} (h0 : 0 ≤ k) (hk : k < s.1 66 f) : ∃ e, L[k.toNat]? = some e ∧ s.2.1 p k.toNat = e.1 ∧ (0 ≤ e.1 ∧ e.1 < m) ∧ qx_is s e.2 (s.2.1 q k.toNat) := by
  obtain ⟨h1, h2⟩ := h trivial
  exact h2 k.toNat (by omega)

theorem c_q_sn {sL : Nat} {sx : Nat → Int32} (hsL : sL ≤ 3072) (d : Nat) (hd : 3 ≤ d) (b : Nat → Int) (n m : Int) : ∀ (a0 a1 : Int) (s : sx_S) (K : Int → sx_S → Prop), cx_I s → (0 ≤ a0 ∧ a0 ≤ 241) → (0 ≤ a1 ∧ a1 ≤ 241) → (a0 < m ∧ a1 < m) → (px_TN b n m s) → (∀ z : Int, (z = 0 ∨ z = 1) → (z ≠ 0 → px_SN b n a0 a1) → (z = 0 → ¬ px_SN b n a0 a1) → K z s) → sx_C sL sx d 157 [.inr (.inl 66), .inl a0, .inl a1] s K := fun a0 a1 s K hI p0 p1 p2 p3 hK => c_rx_sameName hsL d hd b n m a0 a1 s K hI p0 p1 (p3 trivial).1 (p3 trivial).2.1 p2 (p3 trivial).2.2 hK
