/-! ===== the reference: fits, put together ===== -/
/-- a row of ARGs under way -/
def rf_FL (nb mark : Int) (s u : sx_S) (g g1 : rf_Gh) (N : Int → rf_T → Prop) (y : rf_Y) (W : List Nat) (p : Nat) (b m row : Int) (f D f1 : rf_N) (x6 : Int) : Prop := f = rf_snoc D f1 ∧ (cx_I u ∧ rf_MI nb mark u g1 ∧ rf_EX (s.1 66 71) (s.1 66 58) s u ∧ rf_EG s g g1 ∧ rf_FS s u) ∧ (u.1 66 71 = s.1 66 71 ∧ u.1 66 58 = s.1 66 58) ∧ (rf_ph u g1 ≤ 1150 ∧ rf_RM 4 u ∧ rf_qu u ≤ rf_qu s) ∧ u.2.1 111 m.toNat = 0 ∧ (∃ w, rf_CR u g1 N f1 y w W (p - 1) x6 b) ∧ rf_clo u g1 W m ∧ (∀ x, rf_rc (rf_Ed u g1) x m → rf_rc (rf_Ed s g) x m) ∧ (∀ v, (rf_fo (rf_Wd u g1.2.2) D).2 v → rf_gv s m row mark (rf_look y v)) ∧ (∀ x, (rf_oc D).2 x → x ≠ m ∧ ¬ rf_rc (rf_Ed u g1) x m) ∧ (rf_am (rf_bn u) D).2
theorem rf_am_snoc {p : Nat → Int → Prop} {q : rf_N} : ∀ {n : rf_N}, (rf_am p n).2 → (rf_am p q).2 → (rf_am p (rf_snoc n q)).2
  | .leaf, _, h => h
  | .inner _ _ _ _ _, h, g => ⟨h.1, rf_am_snoc h.2 g⟩
theorem rf_bn_up {nb ib : Int} {s t : sx_S} (h : rf_EX nb ib s t) {j : Nat} {r : Int} (k : rf_bn s j r) : rf_bn t j r := by
  obtain ⟨k1, ⟨k2, k3⟩, k4, k5⟩ := k
  have e1 := h.aa k2 k3
  have e2 := ((h.2 j).1 k1).2.2.2.2
  have e3 := h.1.2.1
  have e4 := h.1.2.2.1
  have e5 := h.1.2.2.2.1
  exact ⟨by omega, ⟨k2, by omega⟩, by omega, by omega⟩
/-- the variables of an open unknown that is narrowed -/
def rf_OW (s u : sx_S) (x x8 x9 : Int) : Prop := (cx_I u ∧ cx_F [(66, 66), (105, 105)] s u ∧ rf_f [56] s u) ∧ x8 = s.1 66 56 ∧ u.1 66 56 = s.1 66 56 + s.2.1 108 x.toNat ∧ rf_ag 105 105 (s.1 66 56) s u ∧ (0 ≤ x9 ∧ x9 ≤ s.2.1 108 x.toNat) ∧ ∀ q : Nat, (q : Int) < x9 → u.2.1 105 (s.1 66 56 + (q : Int)).toNat = -2 - (q : Int)
