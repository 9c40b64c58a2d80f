section
/-! ===== the desk's grammar, exactly: types ===== -/
theorem px_ty_0 {K : Nat → Int} {f : Nat} {a : Int} (h : ∀ y e, ¬ px_AM K f a y e) : ∀ x c, ¬ px_TY K (f + 1) a x c := by
  rintro x c ⟨y, e, h1, _⟩
  exact h y e h1
theorem px_am_f {K : Nat → Int} {f : Nat} {a e e' : Int} {y y' : qx_T} (h : px_AM K f a y e) (h' : px_AM K f a y' e') : y = y' ∧ e = e' := by
  rcases h with ⟨q1, q2, q3⟩ | ⟨q1, q2, q3⟩ | ⟨q1, g, q2, q3, q4⟩ <;> rcases h' with ⟨p1, p2, p3⟩ | ⟨p1, p2, p3⟩ | ⟨p1, g', p2, p3, p4⟩
  · exact ⟨by rw [q2, p2], by omega⟩
  · omega
  · omega
  · omega
  · exact ⟨by rw [q2, p2], by omega⟩
  · omega
  · omega
  · omega
  · obtain ⟨z1, z2⟩ := px_TY_fun q2 p2
    exact ⟨z1, by omega⟩
theorem px_ty_n {K : Nat → Int} {f : Nat} {a e : Int} {y : qx_T} (h : px_AM K f a y e) (h8 : K e.toNat = 8) (ht : ∀ x c, ¬ px_TY K f (e + 1) x c) : ∀ x c, ¬ px_TY K (f + 1) a x c := by
  rintro x c ⟨y', e', h1, h2⟩
  obtain ⟨rfl, rfl⟩ := px_am_f h h1
  rcases h2 with ⟨_, w, q, _⟩ | ⟨q, _⟩
  · exact ht _ _ q
  · exact q h8
theorem px_ty_1 {K : Nat → Int} {f : Nat} {a e : Int} {y : qx_T} (h : px_AM K f a y e) (h8 : K e.toNat ≠ 8) : px_TY K (f + 1) a y e := ⟨y, e, h, Or.inr ⟨h8, rfl, rfl⟩⟩
theorem px_ty_2 {K : Nat → Int} {f : Nat} {a e c : Int} {y w : qx_T} (h : px_AM K f a y e) (h8 : K e.toNat = 8) (ht : px_TY K f (e + 1) w c) : px_TY K (f + 1) a (qx_a y w) c := ⟨y, e, h, Or.inl ⟨h8, w, ht, rfl⟩⟩

theorem w_dg_type0 {CALL : sx_Ca} {b : Nat → Int} {n : Int} {g : Nat} {sL : Nat} {sx : Nat → Int32} {Q : Nat → sx_L → sx_S → Prop} {R : Int → sx_S → Prop} {s : sx_S} {a0 : Int} (hI : cx_I s) (p0 : a0 = 21) (p1 : px_TK b n s) (p2 : 0 ≤ s.1 7 1) (p3 : px_lv b n (s.1 7 1).toNat) (hK1 : ∀ x c, px_TY (px_K b n) 0 (s.1 7 1) x c → 0 ≤ c → px_lv b n c.toNat → R 1 (sx_uf s.1 7 1 c, s.2)) (hK0 : (∀ x c, ¬ px_TY (px_K b n) 0 (s.1 7 1) x c) → ∀ c, 0 ≤ c → px_lv b n c.toNat → R 0 (sx_uf s.1 7 1 c, s.2)) : sx_wp true sL sx eX2_type CALL [] Q R 400 0 (sx_argsF 0 [.inr (.inl 7), .inl a0]) [] s := by
  have zz9 := hK0 (fun _ _ h => h) (s.1 7 1) p2 p3
  rw [px_ui rfl] at zz9
  repeat' (first | (with_reducible intro _) | (refine And.intro ?_ ?_))
  all_goals (try dsimp only at *)
  all_goals (first | exact zz9 | omega | (exfalso; omega))
theorem w_dg_type {CALL : sx_Ca} {b : Nat → Int} {n : Int} {g : Nat} {sL : Nat} {sx : Nat → Int32} {Q : Nat → sx_L → sx_S → Prop} {R : Int → sx_S → Prop} (h_tk : ∀ (k : Int) (s : sx_S) (K : Int → sx_S → Prop), cx_I s → (2 ≤ k ∧ k ≤ 15) → (px_TK b n s) → (0 ≤ s.1 7 1) → (px_lv b n (s.1 7 1).toNat) → (px_K b n (s.1 7 1).toNat = k → K 1 (sx_uf s.1 7 1 (s.1 7 1 + 1), s.2)) → (px_K b n (s.1 7 1).toNat ≠ k → K 0 s) → CALL 37 [.inr (.inl 7), .inl k] s K) (h_at : ∀ (a0 : Int) (s : sx_S) (K : Int → sx_S → Prop), cx_I s → a0 = 20 - (g : Int) → (px_TK b n s) → (0 ≤ s.1 7 1) → (px_lv b n (s.1 7 1).toNat) → (∀ x c, px_AM (px_K b n) g (s.1 7 1) x c → 0 ≤ c → px_lv b n c.toNat → K 1 (sx_uf s.1 7 1 c, s.2)) → ((∀ x c, ¬ px_AM (px_K b n) g (s.1 7 1) x c) → ∀ c, 0 ≤ c → px_lv b n c.toNat → K 0 (sx_uf s.1 7 1 c, s.2)) → CALL 40 [.inr (.inl 7), .inl a0] s K) (h_ty : ∀ (a0 : Int) (s : sx_S) (K : Int → sx_S → Prop), cx_I s → a0 = 21 - (g : Int) → (px_TK b n s) → (0 ≤ s.1 7 1) → (px_lv b n (s.1 7 1).toNat) → (∀ x c, px_TY (px_K b n) g (s.1 7 1) x c → 0 ≤ c → px_lv b n c.toNat → K 1 (sx_uf s.1 7 1 c, s.2)) → ((∀ x c, ¬ px_TY (px_K b n) g (s.1 7 1) x c) → ∀ c, 0 ≤ c → px_lv b n c.toNat → K 0 (sx_uf s.1 7 1 c, s.2)) → CALL 39 [.inr (.inl 7), .inl a0] s K) {s : sx_S} {a0 : Int} (hI : cx_I s) (p0 : a0 = 20 - (g : Int)) (pg : g ≤ 20) (p1 : px_TK b n s) (p2 : 0 ≤ s.1 7 1) (p3 : px_lv b n (s.1 7 1).toNat) (hK1 : ∀ x c, px_TY (px_K b n) (g + 1) (s.1 7 1) x c → 0 ≤ c → px_lv b n c.toNat → R 1 (sx_uf s.1 7 1 c, s.2)) (hK0 : (∀ x c, ¬ px_TY (px_K b n) (g + 1) (s.1 7 1) x c) → ∀ c, 0 ≤ c → px_lv b n c.toNat → R 0 (sx_uf s.1 7 1 c, s.2)) : sx_wp true sL sx eX2_type CALL [] Q R 400 0 (sx_argsF 0 [.inr (.inl 7), .inl a0]) [] s := by
  have zzq : sx_w true (a0 + 1) = 21 - (g : Int) := by rw [px_wid (by omega) (by omega)]; omega
  repeat' (first | (with_reducible (rintro _ rfl)) | (with_reducible intro _) | (refine And.intro ?_ ?_) | (refine h_tk _ _ _ ?_ ?_ ?_ ?_ ?_ ?_ ?_) | (refine h_ty _ _ _ ?_ ?_ ?_ ?_ ?_ ?_ ?_) | (refine h_at _ _ _ ?_ ?_ ?_ ?_ ?_ ?_ ?_))
  all_goals (try dsimp only at *)
  all_goals (try simp only [px_us, px_uu] at *)
  all_goals (first | trivial | assumption | omega | (exact px_cI hI p1 (by assumption) (by assumption)) | (exact px_cI hI p1 (by omega) (px_lv_up (by assumption) (by assumption) (by omega) rfl)) | (exact px_lv_up (by assumption) (by assumption) (by omega) rfl) | (exact hK0 (px_ty_0 (by assumption)) _ (by assumption) (by assumption)) | (exact hK1 _ _ (px_ty_1 (by assumption) (by assumption)) (by assumption) (by assumption)) | (exact hK1 _ _ (px_ty_2 (by assumption) (by assumption) (by assumption)) (by assumption) (by assumption)) | (exact hK0 (px_ty_n (by assumption) (by assumption) (by assumption)) _ (by assumption) (by assumption)) | skip)

theorem c_dg_type {sL : Nat} {sx : Nat → Int32} (hsL : sL ≤ 3072) (b : Nat → Int) (n : Int) : ∀ g : Nat, g ≤ 21 → ∀ d, 4 + 2 * g ≤ d → ∀ (a0 : Int) (s : sx_S) (K : Int → sx_S → Prop), cx_I s → a0 = 21 - (g : Int) → (px_TK b n s) → (0 ≤ s.1 7 1) → (px_lv b n (s.1 7 1).toNat) → (∀ x c, px_TY (px_K b n) g (s.1 7 1) x c → 0 ≤ c → px_lv b n c.toNat → K 1 (sx_uf s.1 7 1 c, s.2)) → ((∀ x c, ¬ px_TY (px_K b n) g (s.1 7 1) x c) → ∀ c, 0 ≤ c → px_lv b n c.toNat → K 0 (sx_uf s.1 7 1 c, s.2)) → sx_C sL sx d 39 [.inr (.inl 7), .inl a0] s K := by
  intro g
  induction g with
  | zero =>
    intro _ d hd a0 s K hI p0 p1 p2 p3 hK1 hK0
    obtain ⟨e, rfl⟩ : ∃ e, d = e + 2 := ⟨d - 2, by omega⟩
    exact sx_meth (wr := true) (n := 400) hsL (e := eX2_type) rfl (w_dg_type0 (g := 0) (Q := fun _ _ _ => False) hI (by omega) p1 p2 p3 hK1 hK0)
  | succ g ih =>
    intro hg d hd a0 s K hI p0 p1 p2 p3 hK1 hK0
    obtain ⟨e, rfl⟩ : ∃ e, d = e + 3 := ⟨d - 3, by omega⟩
    have at0 : ∀ (a0 : Int) (s : sx_S) (K : Int → sx_S → Prop), cx_I s → a0 = 20 - (g : Int) → (px_TK b n s) → (0 ≤ s.1 7 1) → (px_lv b n (s.1 7 1).toNat) → (∀ x c, px_AM (px_K b n) g (s.1 7 1) x c → 0 ≤ c → px_lv b n c.toNat → K 1 (sx_uf s.1 7 1 c, s.2)) → ((∀ x c, ¬ px_AM (px_K b n) g (s.1 7 1) x c) → ∀ c, 0 ≤ c → px_lv b n c.toNat → K 0 (sx_uf s.1 7 1 c, s.2)) → sx_C sL sx (e + 2) 40 [.inr (.inl 7), .inl a0] s K := fun a0 s K hI p0 p1 p2 p3 hK1 hK0 => sx_meth (wr := true) (n := 400) hsL (e := eX2_atom) rfl (w_dg_atom (Q := fun _ _ _ => False) (c_dx_tk hsL (e + 1) (by omega) b n) (ih (by omega) (e + 1) (by omega)) hI p0 (by omega) p1 p2 p3 hK1 hK0)
    exact sx_meth (wr := true) (n := 400) hsL (e := eX2_type) rfl (w_dg_type (Q := fun _ _ _ => False) (c_dx_tk hsL (e + 2) (by omega) b n) at0 (ih (by omega) (e + 2) (by omega)) hI (by omega) (by omega) p1 p2 p3 hK1 hK0)
end
section
/-! ===== the reference reads types, exactly ===== -/
/-- the reference has the tokens of the text -/
def px_RQ (b : Nat → Int) (n : Int) (s : sx_S) : Prop := ∀ i : Nat, px_lv b n i → s.2.1 69 i = px_rc (px_K b n i)
def px_L (b : Nat → Int) (n : Int) (s : sx_S) : Prop := s.1 66 8 = 0 → px_lv b n (s.1 66 7).toNat
theorem px_RQ_uf {b : Nat → Int} {n : Int} {F : Nat → Nat → Int} {B : (Nat → Nat → Int) × (Nat → Nat → Int) × Nat} {p k : Nat} {v : Int} (h : px_RQ b n (F, B)) : px_RQ b n (sx_uf F p k v, B) := h
theorem px_RQ_ua {b : Nat → Int} {n : Int} {F A : Nat → Nat → Int} {B : (Nat → Nat → Int) × Nat} {p k : Nat} {v : Int} (hp : Nat.beq p 69 = false) (h : px_RQ b n (F, A, B)) : px_RQ b n (F, sx_ua A p k v, B) := by
  intro i hi
  show sx_ua A p k v 69 i = _
  rw [sx_ua_ne (fun z => by rw [← z] at hp; exact absurd hp (by decide))]
  exact h i hi
theorem px_RQ_F {V : List (Nat × Nat)} {b : Nat → Int} {n : Int} {s t : sx_S} (hF : cx_F V s t) (hV : cx_outb V 69 = true) (h : px_RQ b n s) : px_RQ b n t := by
  intro i hi
  rw [(hF.same 69 hV).2]
  exact h i hi
theorem px_RQ_at {b : Nat → Int} {n : Int} {s : sx_S} (h : px_RQ b n s) (hl : px_L b n s) : s.1 66 8 = 0 → s.2.1 69 (s.1 66 7).toNat = px_rc (px_K b n (s.1 66 7).toNat) := fun q => h _ (hl q)
theorem px_L_8 {b : Nat → Int} {n : Int} {s t : sx_S} (h : px_L b n s) (h8 : t.1 66 8 = 0 → s.1 66 8 = 0) (h7 : t.1 66 7 = s.1 66 7) : px_L b n t := fun q => by
  rw [h7]
  exact h (h8 q)
theorem px_L_up {b : Nat → Int} {n : Int} {s t : sx_S} (h : px_L b n s) (h8 : t.1 66 8 = 0 → s.1 66 8 = 0 ∧ px_rc (px_K b n (s.1 66 7).toNat) ≠ 7 ∧ px_rc (px_K b n (s.1 66 7).toNat) ≠ 8) (h7 : t.1 66 8 = 0 → t.1 66 7 = s.1 66 7 + 1) (h0 : 0 ≤ s.1 66 7) : px_L b n t := fun q => by
  obtain ⟨a1, a2, a3⟩ := h8 q
  have hr := px_rc_k (px_K b n (s.1 66 7).toNat)
  refine px_lv_up (h a1) h0 ⟨fun e => a2 (hr.1 e), fun e => a3 (hr.2.1 e)⟩ (h7 q)
/-- which sign it is -/
theorem px_rcx {k : Int} (h : 0 ≤ k ∧ k ≤ 15) : (px_rc k = 1 ↔ k = 2) ∧ (px_rc k = 2 ↔ k = 3) ∧ (px_rc k = 3 ↔ k = 4) ∧ (px_rc k = 4 ↔ k = 5) ∧ (px_rc k = 5 ↔ k = 6) ∧ (px_rc k = 6 ↔ k = 7) ∧ (px_rc k = 9 ↔ k = 8) ∧ (px_rc k = 40 ↔ k = 9) ∧ (px_rc k = 41 ↔ k = 10) ∧ (px_rc k = 92 ↔ k = 11) ∧ (px_rc k = 58 ↔ k = 12) ∧ (px_rc k = 46 ↔ k = 13) ∧ (px_rc k = 59 ↔ k = 14) ∧ (px_rc k = 61 ↔ k = 15) ∧ (px_rc k = 7 ↔ k = 0) := by
  have e : k = 0 ∨ k = 1 ∨ k = 2 ∨ k = 3 ∨ k = 4 ∨ k = 5 ∨ k = 6 ∨ k = 7 ∨ k = 8 ∨ k = 9 ∨ k = 10 ∨ k = 11 ∨ k = 12 ∨ k = 13 ∨ k = 14 ∨ k = 15 := by omega
  rcases e with rfl | rfl | rfl | rfl | rfl | rfl | rfl | rfl | rfl | rfl | rfl | rfl | rfl | rfl | rfl | rfl <;> decide
theorem px_rcK (b : Nat → Int) (n : Int) (i : Nat) : (px_rc (px_K b n i) = 1 ↔ px_K b n i = 2) ∧ (px_rc (px_K b n i) = 2 ↔ px_K b n i = 3) ∧ (px_rc (px_K b n i) = 3 ↔ px_K b n i = 4) ∧ (px_rc (px_K b n i) = 4 ↔ px_K b n i = 5) ∧ (px_rc (px_K b n i) = 5 ↔ px_K b n i = 6) ∧ (px_rc (px_K b n i) = 6 ↔ px_K b n i = 7) ∧ (px_rc (px_K b n i) = 9 ↔ px_K b n i = 8) ∧ (px_rc (px_K b n i) = 40 ↔ px_K b n i = 9) ∧ (px_rc (px_K b n i) = 41 ↔ px_K b n i = 10) ∧ (px_rc (px_K b n i) = 92 ↔ px_K b n i = 11) ∧ (px_rc (px_K b n i) = 58 ↔ px_K b n i = 12) ∧ (px_rc (px_K b n i) = 46 ↔ px_K b n i = 13) ∧ (px_rc (px_K b n i) = 59 ↔ px_K b n i = 14) ∧ (px_rc (px_K b n i) = 61 ↔ px_K b n i = 15) ∧ (px_rc (px_K b n i) = 7 ↔ px_K b n i = 0) := px_rcx (px_K_r b n i)
/-- a type by its number -/
def qx_is (s : sx_S) (x : qx_T) (t : Int) : Prop := qx_ty (s.2.1 72) (s.2.1 73) (s.1 66 9) x t
theorem qx_ty_mono {L R L' R' : Nat → Int} {N N' : Int} (hL : ∀ j : Nat, (j : Int) < N → L' j = L j ∧ R' j = R j) (hN : N ≤ N') : ∀ {x : qx_T} {t : Int}, qx_ty L R N x t → qx_ty L' R' N' x t
  | .leaf, _, h => h
  | .inner j k _ x y, t, h => by
    obtain ⟨h0, h⟩ := h
    refine ⟨h0, ?_⟩
    rcases h with h | ⟨a1, ⟨a2, a3⟩, a4, a5⟩
    · exact Or.inl h
    · refine Or.inr ⟨a1, ⟨a2, by omega⟩, ?_, ?_⟩
      · rw [(hL t.toNat (by omega)).1]
        exact qx_ty_mono hL hN a4
      · rw [(hL t.toNat (by omega)).2]
        exact qx_ty_mono hL hN a5
theorem qx_is_up {s t : sx_S} {x : qx_T} {z : Int} (h : qx_is s x z) (hu : rf_tu s t) : qx_is t x z := qx_ty_mono (fun j => (hu j).2) (hu 0).1 h
/-- a type made of two -/
def qx_ar (s t : sx_S) (a b z : Int) : Prop := ∀ x y, 2 ≤ s.1 66 9 → qx_is s x a → qx_is s y b → qx_is t (qx_a x y) z
theorem qx_ar_mk {s : sx_S} {B : (Nat → Nat → Int) × Nat} {w n m z a b : Int} (h0 : 0 ≤ s.1 66 9) (hw : w = s.1 66 9 + 1) (h1 : n = s.1 66 9) (h2 : m = s.1 66 9) (hz : z = s.1 66 9) : qx_ar s (sx_uf s.1 66 9 w, sx_ua (sx_ua s.2.1 72 n.toNat a) 73 m.toNat b, B) a b z := by
  have hu := rf_tu_mk (s := s) (B := B) (a := a) (b := b) h0 hw h1 h2
  subst h1 h2 hz
  have e9 : sx_uf s.1 66 9 w 66 9 = w := by rw [sx_uf_if, if_pos ⟨rfl, rfl⟩]
  intro x y h2 hx hy
  have e1 : sx_ua (sx_ua s.2.1 72 (s.1 66 9).toNat a) 73 (s.1 66 9).toNat b 72 (s.1 66 9).toNat = a := by
    rw [sx_ua_ne (by decide), sx_ua_same]
    exact if_pos rfl
  have e2 : sx_ua (sx_ua s.2.1 72 (s.1 66 9).toNat a) 73 (s.1 66 9).toNat b 73 (s.1 66 9).toNat = b := by
    rw [sx_ua_same]
    exact if_pos rfl
  refine ⟨rfl, Or.inr ⟨rfl, ⟨h2, ?_⟩, ?_, ?_⟩⟩
  · dsimp only
    rw [e9]
    omega
  · dsimp only
    rw [e1]
    exact qx_is_up hx hu
  · dsimp only
    rw [e2]
    exact qx_is_up hy hu
/-- read: a type that R allows, or none is -/
def px_pm (R : qx_T → Int → Prop) (s t : sx_S) (z : Int) : Prop := True → (t.1 66 8 = 0 → ∃ x, R x (t.1 66 7) ∧ qx_is t x z ∧ t.1 66 33 = s.1 66 33 + (qx_at x : Int)) ∧ (s.1 66 8 = 0 → t.1 66 8 ≠ 0 → ∀ x c, ¬ R x c)
abbrev px_R0 (b : Nat → Int) (n a0 a : Int) : qx_T → Int → Prop := px_TY (px_K b n) (21 - a0).toNat a
def px_R1 (b : Nat → Int) (n a0 a : Int) (x : qx_T) (c : Int) : Prop := a0 ≤ 20 ∧ px_K b n a.toNat = 9 ∧ px_TY (px_K b n) (20 - a0).toNat (a + 1) x c
def px_R2 (b : Nat → Int) (n a0 a : Int) (x : qx_T) (c : Int) : Prop := a0 ≤ 20 ∧ px_AM (px_K b n) (20 - a0).toNat a x c
theorem px_R0_it {b : Nat → Int} {n a0 a c : Int} {x : qx_T} : px_R0 b n a0 a x c ↔ ∃ y e, px_R2 b n a0 a y e ∧ ((px_K b n e.toNat = 8 ∧ ∃ w, px_R0 b n (a0 + 1) (e + 1) w c ∧ x = qx_a y w) ∨ (px_K b n e.toNat ≠ 8 ∧ x = y ∧ c = e)) := by
  by_cases h : a0 ≤ 20
  · unfold px_R0 px_R2
    rw [show (21 - a0).toNat = (20 - a0).toNat + 1 by omega, show (21 - (a0 + 1)).toNat = (20 - a0).toNat by omega, px_TY_it]
    constructor
    · rintro ⟨y, e, h1, h2⟩
      exact ⟨y, e, ⟨h, h1⟩, h2⟩
    · rintro ⟨y, e, h1, h2⟩
      exact ⟨y, e, h1.2, h2⟩
  · constructor
    · intro q
      unfold px_R0 at q
      rw [show (21 - a0).toNat = 0 by omega] at q
      exact q.elim
    · rintro ⟨y, e, h1, _⟩
      exact absurd h1.1 h
theorem px_R2_fun {b : Nat → Int} {n a0 a e e' : Int} {y y' : qx_T} (h : px_R2 b n a0 a y e) (h' : px_R2 b n a0 a y' e') : y = y' ∧ e = e' := px_am_f h.2 h'.2
section PXM
variable {b : Nat → Int} {n a0 : Int} {s t u v : sx_S} {z : Int}
theorem px_pm_o (ha : a0 ≤ 20) (hk : px_rc (px_K b n (s.1 66 7).toNat) = 5) (h7 : u.1 66 7 = s.1 66 7 + 1) (h3 : u.1 66 33 = s.1 66 33 + 1) (h8 : u.1 66 8 = 0) : px_pm (px_R2 b n a0 (s.1 66 7)) s u 0 := fun _ => ⟨fun _ => ⟨qx_o, ⟨ha, Or.inl ⟨(px_rcK b n _).2.2.2.2.1.mp hk, rfl, h7⟩⟩, rfl, h3⟩, fun _ q => absurd h8 q⟩
theorem px_pm_i (ha : a0 ≤ 20) (hk : px_rc (px_K b n (s.1 66 7).toNat) = 6) (h7 : u.1 66 7 = s.1 66 7 + 1) (h3 : u.1 66 33 = s.1 66 33 + 1) (h8 : u.1 66 8 = 0) : px_pm (px_R2 b n a0 (s.1 66 7)) s u 1 := fun _ => ⟨fun _ => ⟨qx_i, ⟨ha, Or.inr (Or.inl ⟨(px_rcK b n _).2.2.2.2.2.1.mp hk, rfl, h7⟩)⟩, ⟨rfl, Or.inl ⟨rfl, rfl, rfl, rfl⟩⟩, h3⟩, fun _ q => absurd h8 q⟩
/-- no bracket -/
theorem px_pm_n (h8 : u.1 66 8 ≠ 0) (hk : s.1 66 8 = 0 → 20 < a0 ∨ px_rc (px_K b n (s.1 66 7).toNat) ≠ 40) : px_pm (px_R1 b n a0 (s.1 66 7)) s u z := fun _ => ⟨fun q => absurd q h8, fun q _ x c h => by
  rcases hk q with q | q
  · have := h.1
    omega
  · exact q ((px_rcK b n _).2.2.2.2.2.2.2.1.mpr h.2.1)⟩
/-- what is in brackets -/
theorem px_pm_p {a1 : Int} (h : px_pm (px_R0 b n a1 (t.1 66 7)) t u z) (e1 : a1 = a0 + 1) (ha : t.1 66 8 = 0) (ha2 : a0 ≤ 20) (hk : px_rc (px_K b n (s.1 66 7).toNat) = 40) (h7 : t.1 66 7 = s.1 66 7 + 1) (h3 : t.1 66 33 = s.1 66 33) : px_pm (px_R1 b n a0 (s.1 66 7)) s u z := fun _ => by
  subst e1
  obtain ⟨h1, h2⟩ := h trivial
  have e : ∀ x c, px_R0 b n (a0 + 1) (t.1 66 7) x c ↔ px_R1 b n a0 (s.1 66 7) x c := fun x c => by
    unfold px_R0 px_R1
    rw [show (21 - (a0 + 1)).toNat = (20 - a0).toNat by omega, h7]
    exact ⟨fun q => ⟨ha2, (px_rcK b n _).2.2.2.2.2.2.2.1.mp hk, q⟩, fun q => q.2.2⟩
  refine ⟨fun q => ?_, fun _ q x c g => h2 ha q x c ((e x c).mpr g)⟩
  obtain ⟨x, a1, a2, a3⟩ := h1 q
  exact ⟨x, (e x _).mp a1, a2, by rw [a3, h3]⟩
/-- the bracket behind it -/
theorem px_pm_c (h : px_pm (px_R1 b n a0 (s.1 66 7)) s t z) (hu : rf_tu t u) (hp : (u.1 66 8 = 0 ∧ t.1 66 8 = 0 ∧ u.1 66 7 = t.1 66 7 + 1) ∨ (u.1 66 8 = 1 ∧ u.1 66 7 = t.1 66 7)) (hk1 : u.1 66 8 = 0 → px_rc (px_K b n (t.1 66 7).toNat) = 41) (hk2 : t.1 66 8 = 0 → u.1 66 8 ≠ 0 → px_rc (px_K b n (t.1 66 7).toNat) ≠ 41) (h3 : u.1 66 33 = t.1 66 33) (h9 : (t.1 66 8 = 0 ∨ t.1 66 8 = 1)) (hs0 : t.1 66 8 = 0 → s.1 66 8 = 0) (hn6 : s.1 66 8 = 0 → a0 ≤ 20 → px_rc (px_K b n (s.1 66 7).toNat) ≠ 5 ∧ px_rc (px_K b n (s.1 66 7).toNat) ≠ 6) : px_pm (px_R2 b n a0 (s.1 66 7)) s u z := fun _ => by
  obtain ⟨h1, h2⟩ := h trivial
  have hR := px_rcK b n (s.1 66 7).toNat
  refine ⟨fun q => ?_, fun q0 q x c g => ?_⟩
  · rcases hp with ⟨_, t8, p7⟩ | ⟨p8, _⟩
    · obtain ⟨x, a1, a2, a3⟩ := h1 t8
      exact ⟨x, ⟨a1.1, Or.inr (Or.inr ⟨a1.2.1, t.1 66 7, a1.2.2, (px_rcK b n _).2.2.2.2.2.2.2.2.1.mp (hk1 q), p7⟩)⟩, qx_is_up a2 hu, h3.trans a3⟩
    · exact absurd (p8.symm.trans q) (by decide)
  · obtain ⟨g1, g2⟩ := g
    obtain ⟨n5, n6⟩ := hn6 q0 g1
    rcases g2 with ⟨p1, _⟩ | ⟨p1, _⟩ | ⟨p1, e, p2, p3, p4⟩
    · exact n5 (hR.2.2.2.2.1.mpr p1)
    · exact n6 (hR.2.2.2.2.2.1.mpr p1)
    · rcases h9 with t8 | t8
      · obtain ⟨x', a1, a2, a3⟩ := h1 t8
        obtain ⟨_, rfl⟩ := px_TY_fun a1.2.2 p2
        exact hk2 t8 q ((px_rcK b n _).2.2.2.2.2.2.2.2.1.mpr p3)
      · exact h2 q0 (by omega) x e ⟨g1, p1, p2⟩
/-- no arrow behind it -/
theorem px_pm_r (h : px_pm (px_R2 b n a0 (s.1 66 7)) s t z) (hk : t.1 66 8 = 0 → px_rc (px_K b n (t.1 66 7).toNat) ≠ 9) : px_pm (px_R0 b n a0 (s.1 66 7)) s t z := fun _ => by
  obtain ⟨h1, h2⟩ := h trivial
  refine ⟨fun q => ?_, fun q0 q x c g => ?_⟩
  · obtain ⟨x, a1, a2, a3⟩ := h1 q
    exact ⟨x, px_R0_it.mpr ⟨x, _, a1, Or.inr ⟨fun e => hk q ((px_rcK b n _).2.2.2.2.2.2.1.mpr e), rfl, rfl⟩⟩, a2, a3⟩
  · obtain ⟨y, e, g1, _⟩ := px_R0_it.mp g
    exact h2 q0 q y e g1
/-- an arrow -/
theorem px_pm_a {r w : sx_S} {z1 z2 a1 : Int} (h3 : qx_ar v w z1 z2 z) (h2 : px_pm (px_R0 b n a1 (r.1 66 7)) r v z2) (e1 : a1 = a0 + 1) (h1 : px_pm (px_R2 b n a0 (s.1 66 7)) s t z1) (hu : rf_tu t v) (h9 : 2 ≤ v.1 66 9) (hk : px_rc (px_K b n (t.1 66 7).toNat) = 9) (t8 : t.1 66 8 = 0) (r8 : r.1 66 8 = 0) (r7 : r.1 66 7 = t.1 66 7 + 1) (r3 : r.1 66 33 = t.1 66 33) (w8 : w.1 66 8 = v.1 66 8) (w7 : w.1 66 7 = v.1 66 7) (w3 : w.1 66 33 = v.1 66 33) : px_pm (px_R0 b n a0 (s.1 66 7)) s w z := fun _ => by
  subst e1
  obtain ⟨a1, a2⟩ := h1 trivial
  obtain ⟨b1, b2⟩ := h2 trivial
  obtain ⟨x, c1, c2, c3⟩ := a1 t8
  refine ⟨fun q => ?_, fun q0 q y c g => ?_⟩
  · obtain ⟨y, d1, d2, d3⟩ := b1 (by omega)
    refine ⟨qx_a x y, px_R0_it.mpr ⟨x, _, c1, Or.inl ⟨(px_rcK b n _).2.2.2.2.2.2.1.mp hk, y, ?_, rfl⟩⟩, h3 x y h9 (qx_is_up c2 hu) d2, ?_⟩
    · rw [w7, ← r7]
      exact d1
    · show _ = _ + ((qx_at x + qx_at y : Nat) : Int)
      push_cast
      omega
  · obtain ⟨x', e, g1, g2⟩ := px_R0_it.mp g
    obtain ⟨rfl, rfl⟩ := px_R2_fun c1 g1
    rcases g2 with ⟨_, w', g3, _⟩ | ⟨g3, _⟩
    · rw [← r7] at g3
      exact b2 r8 (by omega) _ _ g3
    · exact g3 ((px_rcK b n _).2.2.2.2.2.2.1.mp hk)
end PXM

theorem w_q_take {CALL : sx_Ca} {b : Nat → Int} {n : Int} {T : Int} {sL : Nat} {sx : Nat → Int32} {Q : Nat → sx_L → sx_S → Prop} {R : Int → sx_S → Prop} {s : sx_S} {a0 : Int} (hI : cx_I s) (p0 : (-2147483648 ≤ a0 ∧ a0 ≤ 2147483647)) (p1 : (a0 ≠ 7 ∧ a0 ≠ 8)) (p2 : (rf_A T s)) (p3 : (0 ≤ s.1 66 7 ∧ s.1 66 7 ≤ T ∧ 2 ≤ s.1 66 9 ∧ s.1 66 9 ≤ 2 + s.1 66 7)) (p4 : (px_RQ b n s)) (p5 : (px_L b n s)) (hK : ∀ (z : Int) (t : sx_S), cx_I t → cx_F [(66, 66)] s t → (rf_A T t) → (0 ≤ t.1 66 7 ∧ t.1 66 7 ≤ T ∧ 2 ≤ t.1 66 9 ∧ t.1 66 9 ≤ 2 + t.1 66 7) → (rf_f [7, 8] s t) → (z = s.1 66 7) → ((t.1 66 8 = 0 ∧ s.1 66 8 = 0 ∧ t.1 66 7 = s.1 66 7 + 1) ∨ (t.1 66 8 = 1 ∧ t.1 66 7 = s.1 66 7)) → (t.1 66 9 = s.1 66 9 ∧ t.1 66 33 = s.1 66 33 ∧ t.1 66 12 = s.1 66 12 ∧ t.1 66 24 = s.1 66 24) → (px_RQ b n t) → (px_L b n t) → (t.1 66 8 = 0 → px_rc (px_K b n (s.1 66 7).toNat) = a0) → (s.1 66 8 = 0 → t.1 66 8 ≠ 0 → px_rc (px_K b n (s.1 66 7).toNat) ≠ a0) → R z t) : sx_wp true sL sx eX12_take CALL [] Q R 400 0 (sx_argsF 0 [.inr (.inl 66), .inl a0]) [] s := by
  have hT := rf_A_at p2
  have hT1 := rf_A_T p2
  have zzq := px_RQ_at p4 p5
  have hB := hI.fld 66 8 (by decide) rfl
  repeat' (first | (with_reducible intro _) | (refine And.intro ?_ ?_) | (refine hK _ _ ?_ ?_ ?_ ?_ ?_ ?_ ?_ ?_ ?_ ?_ ?_ ?_))
  all_goals (try dsimp only)
  repeat' (first | (with_reducible assumption) | ((with_reducible (change cx_I (sx_uf _ _ _ _, _))); refine cx_I_uf rfl rfl ?_ ?_ ?_) | ((with_reducible (change cx_I (_, sx_ua _ _ _ _, _))); refine cx_I_ua rfl rfl ?_ ?_ ?_) | ((with_reducible (change cx_I (_, sx_ua _ 16 _ _, _))); refine cx_I_ari ?_ ?_ ?_) | ((with_reducible (change cx_I (sx_uf _ 11 6 _, _))); refine cx_I_ufA rfl ?_ ?_ ?_ ?_) | (with_reducible exact cx_F_refl _ _) | ((with_reducible (change cx_F _ _ (sx_uf _ _ _ _, _))); refine cx_F_uf rfl ?_) | ((with_reducible (change cx_F _ _ (_, sx_ua _ _ _ _, _))); refine cx_F_ua rfl ?_) | ((with_reducible (change cx_I (_, sx_cpy _ _ _ _ _ _, _))); refine cx_I_cpy rfl rfl rfl (by decide) ?_) | ((with_reducible (change cx_F _ _ (_, sx_cpy _ _ _ _ _ _, _))); refine cx_F_cpy rfl ?_) | ((with_reducible (change cx_F _ _ _)); refine cx_F_step (by assumption) rfl ?_) | ((with_reducible (change rf_f _ _ (sx_uf _ 66 _ _, _))); refine rf_f_uf rfl ?_) | ((with_reducible (change rf_f _ _ _)); exact (fun _ _ => rfl)) | ((with_reducible (change rf_f _ _ (_, sx_ua _ _ _ _, _))); refine rf_f_ua ?_) | ((with_reducible (change rf_f _ _ _)); assumption) | ((with_reducible (change rf_f _ _ _)); refine rf_f_step (by assumption) rfl ?_) | ((with_reducible (change rf_f _ _ _)); refine rf_f_F (by assumption) rfl ?_) | ((with_reducible (change px_g1 _ _ _ (_, sx_ua _ _ _ _, _))); refine px_g1_ua rfl (by omega) ?_) | ((with_reducible (change px_g1 _ _ _ _)); exact px_g1_refl _ _ _) | ((with_reducible (change px_g1 _ _ _ _)); assumption) | ((with_reducible (change sx_ua _ _ _ _ _ = _)); refine px_a_ua rfl ?_) | ((with_reducible (change px_RT _ _ _ (sx_uf _ _ _ _, _))); refine px_RT_uf ?_) | ((with_reducible (change px_RT _ _ _ (_, sx_ua _ 69 _ _, _))); refine px_RT_up (by assumption) (by assumption) (by assumption) (by assumption) (by assumption) (by omega) (px_bl_st (by assumption) (by omega)) (by omega)) | ((with_reducible (change px_RT _ _ _ (_, sx_ua _ _ _ _, _))); refine px_RT_ua rfl ?_) | ((with_reducible (change px_RT _ _ 0 _)); exact px_RT_0) | ((with_reducible (change px_RT _ _ _ _)); assumption) | ((with_reducible (change px_RT _ _ _ _)); refine px_RT_F (by assumption) rfl rfl rfl ?_) | ((with_reducible (change px_REx _ _ _)); exact px_REx_mk (by assumption) (by assumption) (by omega) (by omega)) | ((with_reducible (change (_ : sx_S).1 _ _ = _)); refine px_f_F (by assumption) rfl ?_) | ((with_reducible (change (_ : sx_S).2.1 _ = _)); refine px_a_F (by assumption) rfl ?_) | ((with_reducible (change sx_uf _ _ _ _ _ _ = _)); refine px_f_uf rfl ?_) | ((with_reducible (change px_DT _ _ _ (sx_uf _ _ _ _, _))); refine px_DT_uf ?_) | ((with_reducible (change px_DT _ _ _ _)); assumption) | ((with_reducible (change px_DT _ _ _ _)); refine px_DT_F (by assumption) rfl rfl rfl ?_) | ((with_reducible (change px_TK _ _ (sx_uf _ _ _ _, _))); refine px_TK_uf rfl ?_) | ((with_reducible (change px_TK _ _ _)); assumption) | ((with_reducible (change px_TK _ _ _)); refine px_TK_F (by assumption) rfl rfl rfl rfl ?_) | ((with_reducible (change rf_A _ (sx_uf _ _ _ _, _))); refine rf_A_uf ?_) | ((with_reducible (change rf_A _ (_, sx_ua _ _ _ _, _))); refine rf_A_ua rfl ?_) | ((with_reducible (change rf_A _ _)); assumption) | ((with_reducible (change rf_A _ _)); refine rf_A_F (by assumption) rfl ?_) | ((with_reducible (change px_RQ _ _ (sx_uf _ _ _ _, _))); refine px_RQ_uf ?_) | ((with_reducible (change px_RQ _ _ (_, sx_ua _ _ _ _, _))); refine px_RQ_ua rfl ?_) | ((with_reducible (change px_RQ _ _ _)); assumption) | ((with_reducible (change px_RQ _ _ _)); refine px_RQ_F (by assumption) rfl ?_) | fail)
  all_goals (first | trivial | omega | (dsimp only at *; omega) | (simp only [sx_uf_if, sx_ua_if, sx_w_t, true_and, and_true, and_self, and_false, false_and, if_true, if_false, reduceIte] at *; omega) | (subst_vars; simp only [sx_uf_if, sx_ua_if, sx_w_t, true_and, and_true, and_self, and_false, false_and, if_true, if_false, reduceIte] at *; omega) | (refine px_L_up (s := s) p5 ?_ ?_ ?_ <;> (first | omega | (dsimp only at *; omega) | (simp only [sx_uf_if, sx_ua_if, sx_w_t, true_and, and_true, and_self, and_false, false_and, if_true, if_false, reduceIte] at *; omega) | (subst_vars; omega) | (subst_vars; simp only [sx_uf_if, sx_ua_if, sx_w_t, true_and, and_true, and_self, and_false, false_and, if_true, if_false, reduceIte] at *; omega))) | (refine px_L_8 (s := s) p5 ?_ ?_ <;> (first | omega | (dsimp only at *; omega) | (simp only [sx_uf_if, sx_ua_if, sx_w_t, true_and, and_true, and_self, and_false, false_and, if_true, if_false, reduceIte] at *; omega) | (subst_vars; omega) | (subst_vars; simp only [sx_uf_if, sx_ua_if, sx_w_t, true_and, and_true, and_self, and_false, false_and, if_true, if_false, reduceIte] at *; omega))) | skip)

theorem c_q_take {sL : Nat} {sx : Nat → Int32} (hsL : sL ≤ 3072) (d : Nat) (hd : 2 ≤ d) (b : Nat → Int) (n : Int) (T : Int) : ∀ (a0 : Int) (s : sx_S) (K : Int → sx_S → Prop), cx_I s → (-2147483648 ≤ a0 ∧ a0 ≤ 2147483647) → (a0 ≠ 7 ∧ a0 ≠ 8) → (rf_A T s) → (0 ≤ s.1 66 7 ∧ s.1 66 7 ≤ T ∧ 2 ≤ s.1 66 9 ∧ s.1 66 9 ≤ 2 + s.1 66 7) → (px_RQ b n s) → (px_L b n s) → (∀ (z : Int) (t : sx_S), cx_I t → cx_F [(66, 66)] s t → (rf_A T t) → (0 ≤ t.1 66 7 ∧ t.1 66 7 ≤ T ∧ 2 ≤ t.1 66 9 ∧ t.1 66 9 ≤ 2 + t.1 66 7) → (rf_f [7, 8] s t) → (z = s.1 66 7) → ((t.1 66 8 = 0 ∧ s.1 66 8 = 0 ∧ t.1 66 7 = s.1 66 7 + 1) ∨ (t.1 66 8 = 1 ∧ t.1 66 7 = s.1 66 7)) → (t.1 66 9 = s.1 66 9 ∧ t.1 66 33 = s.1 66 33 ∧ t.1 66 12 = s.1 66 12 ∧ t.1 66 24 = s.1 66 24) → (px_RQ b n t) → (px_L b n t) → (t.1 66 8 = 0 → px_rc (px_K b n (s.1 66 7).toNat) = a0) → (s.1 66 8 = 0 → t.1 66 8 ≠ 0 → px_rc (px_K b n (s.1 66 7).toNat) ≠ a0) → K z t) → sx_C sL sx d 158 [.inr (.inl 66), .inl a0] s K := by
  intro a0 s K hI p0 p1 p2 p3 p4 p5 hK
  obtain ⟨d, rfl⟩ : ∃ e, d = e + 2 := ⟨d - 2, by omega⟩
  exact sx_meth (wr := true) (n := 400) hsL (e := eX12_take) rfl (w_q_take (Q := fun _ _ _ => False)  hI p0 p1 p2 p3 p4 p5 hK)
end
section
/-! ===== WHAT IS RIGHT, pure: names, patterns, types ===== -/
/-- the NAME a is that of a variable: how many are bound outside of it, its type -/
def px_vr (SN : Int → Int → Prop) : List (Int × qx_T) → Int → Nat → qx_T → Prop
  | [], _, _, _ => False
  | q :: Γ, a, k, x => (SN q.1 a ∧ k = Γ.length ∧ x = q.2) ∨ (¬ SN q.1 a ∧ px_vr SN Γ a k x)
def px_nv (SN : Int → Int → Prop) (Γ : List (Int × qx_T)) (a : Int) : Prop := ∀ q ∈ Γ, ¬ SN q.1 a
/-- that of the first one declared -/
def px_cf (SN : Int → Int → Prop) : List (Int × qx_T) → Int → Nat → qx_T → Prop
  | [], _, _, _ => False
  | q :: L, a, k, x => (SN q.1 a ∧ k = 0 ∧ x = q.2) ∨ (¬ SN q.1 a ∧ ∃ j, k = j + 1 ∧ px_cf SN L a j x)
/-- what the NAME a means: sort, which, type -/
def px_hd (SN : Int → Int → Prop) (C M Γ : List (Int × qx_T)) (a s : Int) (k : Nat) (u : qx_T) : Prop := (s = 2 ∧ px_vr SN Γ a k u) ∨ (s = 1 ∧ px_nv SN Γ a ∧ px_cf SN C a k u) ∨ (s = 3 ∧ px_nv SN Γ a ∧ px_nv SN C a ∧ px_cf SN M a k u)
theorem px_vr_fun {SN : Int → Int → Prop} {a : Int} : ∀ {Γ : List (Int × qx_T)} {k k' : Nat} {x x' : qx_T}, px_vr SN Γ a k x → px_vr SN Γ a k' x' → k = k' ∧ x = x'
  | [], _, _, _, _, h, _ => h.elim
  | q :: Γ, _, _, _, _, h, g => by
    rcases h with ⟨h1, h2, h3⟩ | ⟨h1, h2⟩ <;> rcases g with ⟨g1, g2, g3⟩ | ⟨g1, g2⟩
    · exact ⟨h2.trans g2.symm, h3.trans g3.symm⟩
    · exact absurd h1 g1
    · exact absurd g1 h1
    · exact px_vr_fun h2 g2
theorem px_cf_fun {SN : Int → Int → Prop} {a : Int} : ∀ {Γ : List (Int × qx_T)} {k k' : Nat} {x x' : qx_T}, px_cf SN Γ a k x → px_cf SN Γ a k' x' → k = k' ∧ x = x'
  | [], _, _, _, _, h, _ => h.elim
  | q :: Γ, _, _, _, _, h, g => by
    rcases h with ⟨h1, h2, h3⟩ | ⟨h1, j, h2, h3⟩ <;> rcases g with ⟨g1, g2, g3⟩ | ⟨g1, i, g2, g3⟩
    · exact ⟨h2.trans g2.symm, h3.trans g3.symm⟩
    · exact absurd h1 g1
    · exact absurd g1 h1
    · obtain ⟨rfl, rfl⟩ := px_cf_fun h3 g3
      exact ⟨by omega, rfl⟩
theorem px_vr_nv {SN : Int → Int → Prop} {a : Int} : ∀ {Γ : List (Int × qx_T)} {k : Nat} {x : qx_T}, px_vr SN Γ a k x → px_nv SN Γ a → False
  | [], _, _, h, _ => h
  | q :: Γ, _, _, h, g => by
    rcases h with ⟨h1, _⟩ | ⟨_, h2⟩
    · exact g q List.mem_cons_self h1
    · exact px_vr_nv h2 (fun p hp => g p (List.mem_cons_of_mem _ hp))
theorem px_cf_nv {SN : Int → Int → Prop} {a : Int} : ∀ {Γ : List (Int × qx_T)} {k : Nat} {x : qx_T}, px_cf SN Γ a k x → px_nv SN Γ a → False
  | [], _, _, h, _ => h
  | q :: Γ, _, _, h, g => by
    rcases h with ⟨h1, _⟩ | ⟨_, j, _, h2⟩
    · exact g q List.mem_cons_self h1
    · exact px_cf_nv h2 (fun p hp => g p (List.mem_cons_of_mem _ hp))
theorem px_vr_lt {SN : Int → Int → Prop} {a : Int} : ∀ {Γ : List (Int × qx_T)} {k : Nat} {x : qx_T}, px_vr SN Γ a k x → k < Γ.length
  | [], _, _, h => h.elim
  | q :: Γ, _, _, h => by
    rcases h with ⟨_, h2, _⟩ | ⟨_, h2⟩
    · rw [List.length_cons]
      omega
    · have := px_vr_lt h2
      rw [List.length_cons]
      omega
theorem px_hd_fun {SN : Int → Int → Prop} {C M Γ : List (Int × qx_T)} {a s s' : Int} {k k' : Nat} {u u' : qx_T} (h : px_hd SN C M Γ a s k u) (g : px_hd SN C M Γ a s' k' u') : s = s' ∧ k = k' ∧ u = u' := by
  rcases h with ⟨h1, h2⟩ | ⟨h1, h2, h3⟩ | ⟨h1, h2, h3, h4⟩ <;> rcases g with ⟨g1, g2⟩ | ⟨g1, g2, g3⟩ | ⟨g1, g2, g3, g4⟩
  · exact ⟨h1.trans g1.symm, px_vr_fun h2 g2⟩
  · exact (px_vr_nv h2 g2).elim
  · exact (px_vr_nv h2 g2).elim
  · exact (px_vr_nv g2 h2).elim
  · exact ⟨h1.trans g1.symm, px_cf_fun h3 g3⟩
  · exact (px_cf_nv h3 g3).elim
  · exact (px_vr_nv g2 h2).elim
  · exact (px_cf_nv g3 h3).elim
  · exact ⟨h1.trans g1.symm, px_cf_fun h4 g4⟩
/-- but for eta it is the variable v (by how many are bound outside of it); us: what is bound just outside -/
def px_pv (SN : Int → Int → Prop) : px_N → (List (Int × qx_T) → List Nat → Nat → Prop) × (List (Int × qx_T) → List Nat → Prop)
  | .leaf => (fun _ _ _ => False, fun _ us => us = [])
  | .inner g q _ f x => (fun Γ us v => (g = 0 ∧ (px_pv SN f).1 (q :: Γ) (us ++ [Γ.length]) v) ∨ (g ≠ 0 ∧ (∃ y, px_vr SN Γ q.1 v y) ∧ v ∉ us ∧ (px_pv SN f).2 Γ us), fun Γ us => ∃ u us', us = u :: us' ∧ ((g = 0 ∧ (px_pv SN f).1 (q :: Γ) ([] ++ [Γ.length]) u) ∨ (g ≠ 0 ∧ (∃ y, px_vr SN Γ q.1 u y) ∧ u ∉ ([] : List Nat) ∧ (px_pv SN f).2 Γ [])) ∧ (px_pv SN x).2 Γ us')
/-- an unknown's ARGs are distinct variables -/
def px_pt' (SN : Int → Int → Prop) (Γ : List (Int × qx_T)) (f : px_N) : Prop := ∃ vs, (px_pv SN f).2 Γ vs ∧ vs.Nodup
/-- it has this type, and is right; a row of ARGs takes a type to another -/
def px_wt (SN : Int → Int → Prop) (C M : List (Int × qx_T)) : px_N → (List (Int × qx_T) → qx_T → Prop) × (List (Int × qx_T) → qx_T → qx_T → Prop)
  | .leaf => (fun _ _ => False, fun _ u w => u = w)
  | .inner g q _ f x => (fun Γ y => (g = 0 ∧ qx_at q.2 ≤ 5 ∧ ∃ B, (px_wt SN C M f).1 (q :: Γ) B ∧ y = qx_a q.2 B) ∨ (g ≠ 0 ∧ ∃ s k u, px_hd SN C M Γ q.1 s k u ∧ (px_wt SN C M f).2 Γ u y ∧ (s = 3 → px_pt' SN Γ f)), fun Γ u w => ∃ A B, u = qx_a A B ∧ ((g = 0 ∧ qx_at q.2 ≤ 5 ∧ ∃ B, (px_wt SN C M f).1 (q :: Γ) B ∧ A = qx_a q.2 B) ∨ (g ≠ 0 ∧ ∃ s k u, px_hd SN C M Γ q.1 s k u ∧ (px_wt SN C M f).2 Γ u A ∧ (s = 3 → px_pt' SN Γ f))) ∧ (px_wt SN C M x).2 Γ B w)
theorem px_wt_c {SN : Int → Int → Prop} {C M Γ : List (Int × qx_T)} {g : Nat} {q : Int × qx_T} {u0 : Unit} {f x : px_N} {u w : qx_T} : (px_wt SN C M (.inner g q u0 f x)).2 Γ u w ↔ ∃ A B, u = qx_a A B ∧ (px_wt SN C M (.inner g q u0 f x)).1 Γ A ∧ (px_wt SN C M x).2 Γ B w := Iff.rfl
theorem qx_a_inj {x y x' y' : qx_T} (h : qx_a x y = qx_a x' y') : x = x' ∧ y = y' := by
  cases h
  exact ⟨rfl, rfl⟩
theorem px_wt_fun {SN : Int → Int → Prop} {C M : List (Int × qx_T)} : ∀ {n : px_N}, (∀ {Γ : List (Int × qx_T)} {y y' : qx_T}, (px_wt SN C M n).1 Γ y → (px_wt SN C M n).1 Γ y' → y = y') ∧ (∀ {Γ : List (Int × qx_T)} {u w w' : qx_T}, (px_wt SN C M n).2 Γ u w → (px_wt SN C M n).2 Γ u w' → w = w')
  | .leaf => ⟨fun h _ => h.elim, fun h g => h.symm.trans g⟩
  | .inner g q _ f x => by
    have hf := px_wt_fun (SN := SN) (C := C) (M := M) (n := f)
    have hx := px_wt_fun (SN := SN) (C := C) (M := M) (n := x)
    have h1 : ∀ {Γ : List (Int × qx_T)} {y y' : qx_T}, (px_wt SN C M (.inner g q () f x)).1 Γ y → (px_wt SN C M (.inner g q () f x)).1 Γ y' → y = y' := by
      intro Γ y y' h k
      rcases h with ⟨h1, h2, B, h3, h4⟩ | ⟨h1, s, j, u, h2, h3, _⟩ <;> rcases k with ⟨k1, k2, B', k3, k4⟩ | ⟨k1, s', j', u', k2, k3, _⟩
      · rw [h4, k4, hf.1 h3 k3]
      · exact absurd h1 k1
      · exact absurd k1 h1
      · obtain ⟨_, _, rfl⟩ := px_hd_fun h2 k2
        exact hf.2 h3 k3
    refine ⟨h1, ?_⟩
    intro Γ u w w' h k
    obtain ⟨A, B, a1, a2, a3⟩ := px_wt_c.mp h
    obtain ⟨A', B', b1, b2, b3⟩ := px_wt_c.mp k
    obtain ⟨rfl, rfl⟩ := qx_a_inj (a1.symm.trans b1)
    exact hx.2 a3 b3
/-- the items are right, those before them declared C and M and had e equations -/
def px_ck (SN : Int → Int → Prop) : List ((Int × Int × qx_T) × (px_N × px_N)) → List (Int × qx_T) → List (Int × qx_T) → Nat → Prop
  | [], _, _, _ => True
  | q :: l, C, M, e => (q.1.1 = 3 ∧ C.length < 8 ∧ px_nv SN C q.1.2.1 ∧ px_nv SN M q.1.2.1 ∧ qx_at q.1.2.2 ≤ 5 ∧ px_ck SN l (C ++ [q.1.2]) M e) ∨ (q.1.1 = 4 ∧ M.length < 5 ∧ px_nv SN C q.1.2.1 ∧ px_nv SN M q.1.2.1 ∧ qx_at q.1.2.2 ≤ 5 ∧ px_ck SN l C (M ++ [q.1.2]) e) ∨ (q.1.1 = 5 ∧ e < 4 ∧ (∃ x, (px_wt SN C M q.2.1).1 [] x ∧ (px_wt SN C M q.2.2).1 [] x) ∧ px_ck SN l C M (e + 1))
/-- types by their number: a number has one type -/
theorem qx_ty_fun {L R : Nat → Int} {N : Int} : ∀ {x y : qx_T} {t : Int}, qx_ty L R N x t → qx_ty L R N y t → x = y
  | .leaf, .leaf, _, _, _ => rfl
  | .leaf, .inner j k _ x y, t, h, g => by
    have h0 : t = 0 := h
    rcases g.2 with ⟨_, _, _, g⟩ | ⟨_, g, _⟩ <;> omega
  | .inner j k _ x y, .leaf, t, h, g => by
    have h0 : t = 0 := g
    rcases h.2 with ⟨_, _, _, h⟩ | ⟨_, h, _⟩ <;> omega
  | .inner j k _ x y, .inner j' k' _ x' y', t, h, g => by
    obtain ⟨h0, h⟩ := h
    obtain ⟨g0, g⟩ := g
    subst h0 g0
    rcases h with ⟨h1, h2, h3, h4⟩ | ⟨h1, h2, h3, h4⟩ <;> rcases g with ⟨g1, g2, g3, g4⟩ | ⟨g1, g2, g3, g4⟩
    · rw [h1, h2, h3, g1, g2, g3]
    · omega
    · omega
    · rw [h1, g1, qx_ty_fun h3 g3, qx_ty_fun h4 g4]
/-- its shape -/
theorem qx_ty_sh {L R : Nat → Int} {N : Int} (hN : 2 ≤ N) : ∀ {x : qx_T} {t : Int}, qx_ty L R N x t → rf_ty L R N (qx_sh x) t
  | .leaf, t, h => by
    have h0 : t = 0 := h
    exact ⟨by omega, by omega⟩
  | .inner j k _ x y, t, h => by
    rcases h.2 with ⟨h1, h2, h3, h4⟩ | ⟨h1, h2, h3, h4⟩
    · rw [h1]
      exact ⟨by omega, by omega⟩
    · rw [h1]
      exact ⟨⟨rfl, h2⟩, qx_ty_sh hN h3, qx_ty_sh hN h4⟩
theorem qx_sh_at : ∀ x : qx_T, rf_at (qx_sh x) = qx_at x
  | .leaf => rfl
  | .inner j k _ x y => by
    cases k with
    | true => rfl
    | false =>
      show rf_at (qx_sh x) + rf_at (qx_sh y) = qx_at x + qx_at y
      rw [qx_sh_at x, qx_sh_at y]
end
section
/-! ===== the reference compares types and names, exactly ===== -/
theorem qx_ty_a {L R : Nat → Int} {N : Int} : ∀ {x : qx_T} {t : Int}, qx_ty L R N x t → 2 ≤ t → ∃ x1 x2, x = qx_a x1 x2 ∧ qx_ty L R N x1 (L t.toNat) ∧ qx_ty L R N x2 (R t.toNat)
  | .leaf, t, h, ht => by
    have h0 : t = 0 := h
    omega
  | .inner j k _ x y, t, h, ht => by
    obtain ⟨h0, h⟩ := h
    subst h0
    rcases h with ⟨_, _, _, h⟩ | ⟨h1, _, h3, h4⟩
    · omega
    · exact ⟨x, y, by rw [h1], h3, h4⟩
theorem qx_ty_01 {L R : Nat → Int} {N : Int} : ∀ {x : qx_T} {t : Int}, qx_ty L R N x t → 0 ≤ t ∧ (t = 0 → x = qx_o) ∧ (t = 1 → x = qx_i) ∧ (x = qx_o → t = 0) ∧ (x = qx_i → t = 1) ∧ (2 ≤ t → t < N)
  | .leaf, t, h => by
    have h0 : t = 0 := h
    exact ⟨by omega, fun _ => rfl, fun q => by omega, fun _ => h0, fun q => (by cases q), fun q => by omega⟩
  | .inner j k u x y, t, h => by
    obtain ⟨h0, h⟩ := h
    subst h0
    rcases h with ⟨h1, h2, h3, h4⟩ | ⟨h1, h2, h3, h4⟩
    · refine ⟨by omega, fun q => by omega, fun _ => by rw [h1, h2, h3], fun q => (by cases q), fun _ => h4, fun q => by omega⟩
    · refine ⟨by omega, fun q => by omega, fun q => by omega, fun q => (by cases q), fun q => ?_, fun _ => h2.2⟩
      rw [h1] at q
      cases q
theorem qx_ty_b {L R : Nat → Int} {N : Int} {x y : qx_T} {a b : Int} (hx : qx_ty L R N x a) (hy : qx_ty L R N y b) (h : a < 2 ∨ b < 2) : x = y ↔ a = b := by
  constructor
  · intro e
    subst e
    obtain ⟨a1, a2, a3, a4, a5, _⟩ := qx_ty_01 hx
    obtain ⟨b1, b2, b3, b4, b5, _⟩ := qx_ty_01 hy
    rcases h with h | h
    · by_cases q : a = 0
      · rw [q, b4 (a2 q)]
      · have q1 : a = 1 := by omega
        rw [q1, b5 (a3 q1)]
    · by_cases q : b = 0
      · rw [q, a4 (b2 q)]
      · have q1 : b = 1 := by omega
        rw [q1, a5 (b3 q1)]
  · intro e
    subst e
    exact qx_ty_fun hx hy
theorem w_q_same {CALL : sx_Ca} {sL : Nat} {sx : Nat → Int32} {Q : Nat → sx_L → sx_S → Prop} {R : Int → sx_S → Prop} {s : sx_S} {a b : Int} {E1 E2 : Prop} (hI : cx_I s) (ha : 0 ≤ a ∧ a ≤ 5999) (hb : 0 ≤ b ∧ b ≤ 5999) (hS1 : 2 ≤ a → 2 ≤ b → ∀ K : Int → sx_S → Prop, (E1 → K 1 s) → (¬ E1 → K 0 s) → CALL 166 [.inr (.inl 66), .inl (s.2.1 72 a.toNat), .inl (s.2.1 72 b.toNat)] s K) (hS2 : 2 ≤ a → 2 ≤ b → ∀ K : Int → sx_S → Prop, (E2 → K 1 s) → (¬ E2 → K 0 s) → CALL 166 [.inr (.inl 66), .inl (s.2.1 73 a.toNat), .inl (s.2.1 73 b.toNat)] s K) (hK1 : (a < 2 ∨ b < 2) → a = b → R 1 s) (hK0 : (a < 2 ∨ b < 2) → a ≠ b → R 0 s) (hK2 : 2 ≤ a → 2 ≤ b → E1 → E2 → R 1 s) (hK3 : 2 ≤ a → 2 ≤ b → ¬ (E1 ∧ E2) → R 0 s) : sx_wp true sL sx eX12_same CALL [] Q R 400 0 (sx_argsF 0 [.inr (.inl 66), .inl a, .inl b]) [] s := by
  repeat' (first | (with_reducible (rintro _ rfl)) | (with_reducible intro _) | (refine And.intro ?_ ?_) | (refine hS1 (by omega) (by omega) _ ?_ ?_) | (refine hS2 (by omega) (by omega) _ ?_ ?_))
  all_goals (try dsimp only at *)
  all_goals (first | trivial | omega | (exfalso; omega) | (exact hK1 (by omega) (by omega)) | (exact hK0 (by omega) (by omega)) | (exact hK2 (by omega) (by omega) (by assumption) (by assumption)) | (refine hK3 (by omega) (by omega) (fun zz9 => ?_); first | exact (by assumption : ¬ E1) zz9.1 | exact (by assumption : ¬ E2) zz9.2) | skip)
theorem c_q_same {sL : Nat} {sx : Nat → Int32} (hsL : sL ≤ 3072) : ∀ (x : qx_T) (d : Nat), rf_hx (qx_sh x) + 2 ≤ d → ∀ (y : qx_T) (a b : Int) (s : sx_S) (K : Int → sx_S → Prop), cx_I s → (2 ≤ s.1 66 9 ∧ s.1 66 9 ≤ 6000) → qx_is s x a → qx_is s y b → (x = y → K 1 s) → (x ≠ y → K 0 s) → sx_C sL sx d 166 [.inr (.inl 66), .inl a, .inl b] s K
  | .leaf, d, hd, y, a, b, s, K, hI, h9, hx, hy, h1, h0 => by
    obtain ⟨d, rfl⟩ : ∃ e, d = e + 2 := ⟨d - 2, by omega⟩
    have ea : a = 0 := hx
    have hb := qx_ty_01 hy
    exact sx_meth (wr := true) (n := 400) hsL (e := eX12_same) rfl (w_q_same (Q := fun _ _ _ => False) (E1 := True) (E2 := True) hI ⟨by omega, by omega⟩ ⟨hb.1, by have := hb.2.2.2.2.2; omega⟩ (fun q => absurd q (by omega)) (fun q => absurd q (by omega)) (fun q e => h1 ((qx_ty_b hx hy q).mpr e)) (fun q e => h0 (fun z => e ((qx_ty_b hx hy q).mp z))) (fun q => absurd q (by omega)) (fun q => absurd q (by omega)))
  | .inner j k u x1 x2, d, hd, y, a, b, s, K, hI, h9, hx, hy, h1, h0 => by
    obtain ⟨d, rfl⟩ : ∃ e, d = e + 2 := ⟨d - 2, by omega⟩
    have ha := qx_ty_01 hx
    have hb := qx_ty_01 hy
    have hx0 := hx
    obtain ⟨hj, hx⟩ := hx
    subst hj
    cases k with
    | true =>
      have ea : a = 1 := by
        rcases hx with ⟨_, _, _, e⟩ | ⟨e, _⟩
        · exact e
        · cases e
      exact sx_meth (wr := true) (n := 400) hsL (e := eX12_same) rfl (w_q_same (Q := fun _ _ _ => False) (E1 := True) (E2 := True) hI ⟨by omega, by omega⟩ ⟨hb.1, by have := hb.2.2.2.2.2; omega⟩ (fun q => absurd q (by omega)) (fun q => absurd q (by omega)) (fun q e => h1 ((qx_ty_b hx0 hy q).mpr e)) (fun q e => h0 (fun z => e ((qx_ty_b hx0 hy q).mp z))) (fun q => absurd q (by omega)) (fun q => absurd q (by omega)))
    | false =>
      have hx' : (2 ≤ a ∧ a < s.1 66 9) ∧ qx_is s x1 (s.2.1 72 a.toNat) ∧ qx_is s x2 (s.2.1 73 a.toNat) := by
        rcases hx with ⟨e, _⟩ | ⟨_, e⟩
        · cases e
        · exact e
      have hh : rf_hx (qx_sh (.inner 0 false u x1 x2)) = max (rf_hx (qx_sh x1)) (rf_hx (qx_sh x2)) + 1 := rfl
      rw [hh] at hd
      refine sx_meth (wr := true) (n := 400) hsL (e := eX12_same) rfl (w_q_same (Q := fun _ _ _ => False) (E1 := ∀ y1 y2, y = qx_a y1 y2 → x1 = y1) (E2 := ∀ y1 y2, y = qx_a y1 y2 → x2 = y2) hI ⟨by omega, by omega⟩ ⟨hb.1, by have := hb.2.2.2.2.2; omega⟩ ?_ ?_ (fun q e => h1 ((qx_ty_b hx0 hy q).mpr e)) (fun q e => h0 (fun z => e ((qx_ty_b hx0 hy q).mp z))) ?_ ?_)
      · intro _ q2 K' k1 k0
        obtain ⟨y1, y2, e, g1, g2⟩ := qx_ty_a hy q2
        refine c_q_same hsL x1 (d + 1) (by omega) y1 _ _ s K' hI h9 hx'.2.1 g1 (fun z => k1 (fun z1 z2 e' => ?_)) (fun z => k0 (fun h => z (h y1 y2 e)))
        rw [z]
        exact (qx_a_inj (e.symm.trans e')).1
      · intro _ q2 K' k1 k0
        obtain ⟨y1, y2, e, g1, g2⟩ := qx_ty_a hy q2
        refine c_q_same hsL x2 (d + 1) (by omega) y2 _ _ s K' hI h9 hx'.2.2 g2 (fun z => k1 (fun z1 z2 e' => ?_)) (fun z => k0 (fun h => z (h y1 y2 e)))
        rw [z]
        exact (qx_a_inj (e.symm.trans e')).2
      · intro _ q2 e1 e2
        obtain ⟨y1, y2, e, g1, g2⟩ := qx_ty_a hy q2
        refine h1 ?_
        rw [e, ← e1 y1 y2 e, ← e2 y1 y2 e]
      · intro _ q2 hn
        refine h0 (fun e => hn ⟨fun y1 y2 e' => ?_, fun y1 y2 e' => ?_⟩)
        · rw [← e] at e'
          cases e'
          rfl
        · rw [← e] at e'
          cases e'
          rfl

/-- the tokens, as names are compared -/
def px_TN (b : Nat → Int) (n m : Int) (s : sx_S) : Prop := True → s.2.1 68 = b ∧ s.1 66 3 = n ∧ px_RT b n m s
abbrev px_SN (b : Nat → Int) (n : Int) : Int → Int → Prop := fun i j => px_sn b n i.toNat j.toNat
/-- the declared names of one sort: their tokens, their types -/
def px_DL (p q f : Nat) (m : Int) (s : sx_S) (L : List (Int × qx_T)) : Prop := True → (L.length : Int) = s.1 66 f ∧ ∀ k : Nat, k < L.length → ∃ e, L[k]? = some e ∧ s.2.1 p k = e.1 ∧ (0 ≤ e.1 ∧ e.1 < m) ∧ qx_is s e.2 (s.2.1 q k)
/-- none of the first k is called so -/
def px_n1 (SN : Int → Int → Prop) (L : List (Int × qx_T)) (a k : Int) : Prop := ∀ j : Nat, (j : Int) < k → ∀ e, L[j]? = some e → ¬ SN e.1 a
theorem px_n1_0 {SN : Int → Int → Prop} {L : List (Int × qx_T)} {a k : Int} (h : k ≤ 0) : px_n1 SN L a k := fun j hj => by omega
theorem px_n1_up {SN : Int → Int → Prop} {L : List (Int × qx_T)} {a k k' : Int} (h : px_n1 SN L a k) (h0 : 0 ≤ k) (e : k' = k + 1) (hn : ∀ e, L[k.toNat]? = some e → ¬ SN e.1 a) : px_n1 SN L a k' := fun j hj e' he => by
  by_cases q : (j : Int) < k
  · exact h j q e' he
  · have : j = k.toNat := by omega
    subst this
    exact hn e' he
theorem px_n1_nv {SN : Int → Int → Prop} {L : List (Int × qx_T)} {a k : Int} (h : px_n1 SN L a k) (hk : (L.length : Int) ≤ k) : px_nv SN L a := fun e he => by
  obtain ⟨j, hj⟩ := List.mem_iff_getElem?.mp he
  have := (List.getElem?_eq_some_iff.mp hj).1
  exact h j (by omega) e hj
theorem px_cf_at {SN : Int → Int → Prop} {a : Int} : ∀ {L : List (Int × qx_T)} {k : Nat} {e : Int × qx_T}, L[k]? = some e → SN e.1 a → (∀ j, j < k → ∀ e', L[j]? = some e' → ¬ SN e'.1 a) → px_cf SN L a k e.2
  | [], _, _, h, _, _ => by cases h
  | q :: L, 0, e, h, hs, _ => by
    cases h
    exact Or.inl ⟨hs, rfl, rfl⟩
  | q :: L, k + 1, e, h, hs, hn => Or.inr ⟨hn 0 (Nat.succ_pos _) q rfl, k, rfl, px_cf_at (L := L) h hs (fun j hj e' he => hn (j + 1) (by omega) e' he)⟩
theorem px_cf_x {SN : Int → Int → Prop} {L : List (Int × qx_T)} {a k : Int} (h : px_n1 SN L a k) (h0 : 0 ≤ k) (hk : k < (L.length : Int)) (hs : ∀ e, L[k.toNat]? = some e → SN e.1 a) : ∃ x, px_cf SN L a k.toNat x := by
  have hl : k.toNat < L.length := by omega
  exact ⟨_, px_cf_at (List.getElem?_eq_getElem hl) (hs _ (List.getElem?_eq_getElem hl)) (fun j hj e' he => h j (by omega) e' he)⟩
theorem px_DL_tok {p q f : Nat} {m : Int} {s : sx_S} {L : List (Int × qx_T)} (h : px_DL p q f m s L) {k : Int} (h0 : 0 ≤ k) (hk : k < s.1 66 f) : ∃ e, L[k.toNat]? = some e ∧ s.2.1 p k.toNat = e.1 ∧ (0 ≤ e.1 ∧ e.1 < m) ∧ qx_is s e.2 (s.2.1 q k.toNat) := by
  obtain ⟨h1, h2⟩ := h trivial
  exact h2 k.toNat (by omega)

theorem c_q_sn {sL : Nat} {sx : Nat → Int32} (hsL : sL ≤ 3072) (d : Nat) (hd : 3 ≤ d) (b : Nat → Int) (n m : Int) : ∀ (a0 a1 : Int) (s : sx_S) (K : Int → sx_S → Prop), cx_I s → (0 ≤ a0 ∧ a0 ≤ 241) → (0 ≤ a1 ∧ a1 ≤ 241) → (a0 < m ∧ a1 < m) → (px_TN b n m s) → (∀ z : Int, (z = 0 ∨ z = 1) → (z ≠ 0 → px_SN b n a0 a1) → (z = 0 → ¬ px_SN b n a0 a1) → K z s) → sx_C sL sx d 157 [.inr (.inl 66), .inl a0, .inl a1] s K := fun a0 a1 s K hI p0 p1 p2 p3 hK => c_rx_sameName hsL d hd b n m a0 a1 s K hI p0 p1 (p3 trivial).1 (p3 trivial).2.1 p2 (p3 trivial).2.2 hK
end
section
/-! ===== the desk: names compared, types numbered, exactly ===== -/
theorem w_dx_sameName {CALL : sx_Ca} {b : Nat → Int} {n : Int} {sL : Nat} {sx : Nat → Int32} {Q : Nat → sx_L → sx_S → Prop} {R : Int → sx_S → Prop} {s : sx_S} {a0 a1 : Int} (hI : cx_I s) (p0 : (0 ≤ a0 ∧ a0 ≤ 239)) (p1 : (0 ≤ a1 ∧ a1 ≤ 239)) (p2 : (s.2.1 3 = b)) (p3 : (s.1 2 4 = n)) (p4 : (px_TK b n s)) (p5 : (a0 < s.1 2 5 ∧ a1 < s.1 2 5)) (hK : ∀ z : Int, (z = 0 ∨ z = 1) → (z ≠ 0 → px_sn b n a0.toNat a1.toNat) → (z = 0 → ¬ px_sn b n a0.toNat a1.toNat) → R z s) (hQ71 : ∀ (x1 x3 x4 x5 x6 : Int) (_ : True), (0 ≤ x1 ∧ x1 ≤ 239) → (0 ≤ x3 ∧ x3 ≤ 240) → (0 ≤ x4 ∧ x4 ≤ 240) → (0 ≤ x5 ∧ x5 ≤ 1) → (0 ≤ x6 ∧ x6 ≤ 240) → (a0 = x1) → (x3 = px_ps b n a0.toNat) → (x4 = px_ps b n a1.toNat) → (x5 ≠ 0 → px_sp b n a0.toNat a1.toNat x6) → (x5 = 0 → ¬ px_sn b n a0.toNat a1.toNat) → Q 71 [(0, .inr (.inl 2)), (1, .inl x1), (3, .inl x3), (4, .inl x4), (5, .inl x5), (6, .inl x6)] s) : sx_wp true sL sx eX8_sameName CALL [(71, [0, 1, 3, 4, 5, 6])] Q R 400 0 (sx_argsF 0 [.inr (.inl 2), .inl a0, .inl a1]) [] s := by
  have zzt := ((p4) trivial).1
  obtain ⟨zzr1, zzr2, zzr3⟩ := ((p4) trivial).2.1 a0.toNat (by omega)
  obtain ⟨zzr4, zzr5, zzr6⟩ := ((p4) trivial).2.1 a1.toNat (by omega)
  have hn := hI.fld 2 4 (by decide) rfl
  have zzg1 := px_en_le (b := b) (px_ps_le (b := b) (n := n) (by omega) a0.toNat)
  have zzg2 := px_en_le (b := b) (px_ps_le (b := b) (n := n) (by omega) a1.toNat)
  have zzg3 := px_ps_ge (b := b) (n := n) a0.toNat
  have zzg4 := px_ps_ge (b := b) (n := n) a1.toNat
  have zzg5 := px_en_ge (b := b) (n := n) (k := px_ps b n a0.toNat)
  have zzg6 := px_en_ge (b := b) (n := n) (k := px_ps b n a1.toNat)
  have zzwC : sx_w true (s.2.1 6 a0.toNat - s.2.1 5 a0.toNat) = px_en b n (px_ps b n a0.toNat) - px_ps b n a0.toNat := by rw [zzr3, zzr2]; exact px_wid (by omega) (by omega)
  have zzwD : sx_w true (s.2.1 6 a1.toNat - s.2.1 5 a1.toNat) = px_en b n (px_ps b n a1.toNat) - px_ps b n a1.toNat := by rw [zzr6, zzr5]; exact px_wid (by omega) (by omega)
  repeat' (first | (with_reducible (rintro _ rfl)) | (with_reducible intro _) | (refine And.intro ?_ ?_) | (refine hK _ ?_ ?_ ?_) | (refine hQ71 _ _ _ _ _ trivial ?_ ?_ ?_ ?_ ?_ ?_ ?_ ?_ ?_ ?_))
  all_goals (try dsimp only)
  repeat' (first | (with_reducible assumption) | ((with_reducible (change cx_I (sx_uf _ _ _ _, _))); refine cx_I_uf rfl rfl ?_ ?_ ?_) | ((with_reducible (change cx_I (_, sx_ua _ _ _ _, _))); refine cx_I_ua rfl rfl ?_ ?_ ?_) | ((with_reducible (change cx_I (_, sx_ua _ 16 _ _, _))); refine cx_I_ari ?_ ?_ ?_) | ((with_reducible (change cx_I (sx_uf _ 11 6 _, _))); refine cx_I_ufA rfl ?_ ?_ ?_ ?_) | (with_reducible exact cx_F_refl _ _) | ((with_reducible (change cx_F _ _ (sx_uf _ _ _ _, _))); refine cx_F_uf rfl ?_) | ((with_reducible (change cx_F _ _ (_, sx_ua _ _ _ _, _))); refine cx_F_ua rfl ?_) | ((with_reducible (change cx_I (_, sx_cpy _ _ _ _ _ _, _))); refine cx_I_cpy rfl rfl rfl (by decide) ?_) | ((with_reducible (change cx_F _ _ (_, sx_cpy _ _ _ _ _ _, _))); refine cx_F_cpy rfl ?_) | ((with_reducible (change cx_F _ _ _)); refine cx_F_step (by assumption) rfl ?_) | ((with_reducible (change rf_f _ _ (sx_uf _ 66 _ _, _))); refine rf_f_uf rfl ?_) | ((with_reducible (change rf_f _ _ _)); exact (fun _ _ => rfl)) | ((with_reducible (change rf_f _ _ (_, sx_ua _ _ _ _, _))); refine rf_f_ua ?_) | ((with_reducible (change rf_f _ _ _)); assumption) | ((with_reducible (change rf_f _ _ _)); refine rf_f_step (by assumption) rfl ?_) | ((with_reducible (change rf_f _ _ _)); refine rf_f_F (by assumption) rfl ?_) | ((with_reducible (change px_g1 _ _ _ (_, sx_ua _ _ _ _, _))); refine px_g1_ua rfl (by omega) ?_) | ((with_reducible (change px_g1 _ _ _ _)); exact px_g1_refl _ _ _) | ((with_reducible (change px_g1 _ _ _ _)); assumption) | ((with_reducible (change sx_ua _ _ _ _ _ = _)); refine px_a_ua rfl ?_) | ((with_reducible (change px_RT _ _ _ (sx_uf _ _ _ _, _))); refine px_RT_uf ?_) | ((with_reducible (change px_RT _ _ _ (_, sx_ua _ 69 _ _, _))); refine px_RT_up (by assumption) (by assumption) (by assumption) (by assumption) (by assumption) (by omega) (px_bl_st (by assumption) (by omega)) (by omega)) | ((with_reducible (change px_RT _ _ _ (_, sx_ua _ _ _ _, _))); refine px_RT_ua rfl ?_) | ((with_reducible (change px_RT _ _ 0 _)); exact px_RT_0) | ((with_reducible (change px_RT _ _ _ _)); assumption) | ((with_reducible (change px_RT _ _ _ _)); refine px_RT_F (by assumption) rfl rfl rfl ?_) | ((with_reducible (change px_REx _ _ _)); exact px_REx_mk (by assumption) (by assumption) (by omega) (by omega)) | ((with_reducible (change (_ : sx_S).1 _ _ = _)); refine px_f_F (by assumption) rfl ?_) | ((with_reducible (change (_ : sx_S).2.1 _ = _)); refine px_a_F (by assumption) rfl ?_) | ((with_reducible (change sx_uf _ _ _ _ _ _ = _)); refine px_f_uf rfl ?_) | ((with_reducible (change px_DT _ _ _ (sx_uf _ _ _ _, _))); refine px_DT_uf ?_) | ((with_reducible (change px_DT _ _ _ _)); assumption) | ((with_reducible (change px_DT _ _ _ _)); refine px_DT_F (by assumption) rfl rfl rfl ?_) | ((with_reducible (change px_TK _ _ (sx_uf _ _ _ _, _))); refine px_TK_uf rfl ?_) | ((with_reducible (change px_TK _ _ _)); assumption) | ((with_reducible (change px_TK _ _ _)); refine px_TK_F (by assumption) rfl rfl rfl rfl ?_) | ((with_reducible (change rf_A _ (sx_uf _ _ _ _, _))); refine rf_A_uf ?_) | ((with_reducible (change rf_A _ (_, sx_ua _ _ _ _, _))); refine rf_A_ua rfl ?_) | ((with_reducible (change rf_A _ _)); assumption) | ((with_reducible (change rf_A _ _)); refine rf_A_F (by assumption) rfl ?_) | ((with_reducible (change px_RQ _ _ (sx_uf _ _ _ _, _))); refine px_RQ_uf ?_) | ((with_reducible (change px_RQ _ _ (_, sx_ua _ _ _ _, _))); refine px_RQ_ua rfl ?_) | ((with_reducible (change px_RQ _ _ _)); assumption) | ((with_reducible (change px_RQ _ _ _)); refine px_RQ_F (by assumption) rfl ?_) | fail)
  all_goals (try dsimp only at *)
  all_goals (first | ((with_reducible (change px_sn _ _ _ _)); exact px_sp_end (by first | assumption | (apply_assumption; omega)) (by omega)) | ((with_reducible (change px_sp _ _ _ _ _)); first | exact px_sp_0 (by omega) (by omega) | (rw [zzy]; exact px_sp_go (by first | assumption | (apply_assumption; omega)) (by omega))) | ((with_reducible (change ¬ px_sn _ _ _ _)); first | (apply_assumption; omega) | exact px_sn_nl (by omega) | exact px_sn_no (x := x6) (by omega) (by omega) (by omega)) | trivial | assumption | rfl | omega | (exfalso; omega) | (subst_vars; omega) | (exact (hI.arr 3 (by decide) rfl _).1) | (exact (hI.arr 3 (by decide) rfl _).2) | skip)

theorem w_dx_sameName_71 {CALL : sx_Ca} {b : Nat → Int} {n : Int} {sL : Nat} {sx : Nat → Int32} {Q : Nat → sx_L → sx_S → Prop} {R : Int → sx_S → Prop} {s : sx_S} {a0 a1 : Int} (hI : cx_I s) (p0 : (0 ≤ a0 ∧ a0 ≤ 239)) (p1 : (0 ≤ a1 ∧ a1 ≤ 239)) (p2 : (s.2.1 3 = b)) (p3 : (s.1 2 4 = n)) (p4 : (px_TK b n s)) (p5 : (a0 < s.1 2 5 ∧ a1 < s.1 2 5)) (hK : ∀ z : Int, (z = 0 ∨ z = 1) → (z ≠ 0 → px_sn b n a0.toNat a1.toNat) → (z = 0 → ¬ px_sn b n a0.toNat a1.toNat) → R z s) {x1 x3 x4 x5 x6 : Int} {mm : Nat} (hm : mm = 17179869184 + (2147483647 - x6).toNat) (i0 : (0 ≤ x1 ∧ x1 ≤ 239)) (i1 : (0 ≤ x3 ∧ x3 ≤ 240)) (i2 : (0 ≤ x4 ∧ x4 ≤ 240)) (i3 : (0 ≤ x5 ∧ x5 ≤ 1)) (i4 : (0 ≤ x6 ∧ x6 ≤ 240)) (i5 : (a0 = x1)) (i6 : (x3 = px_ps b n a0.toNat)) (i7 : (x4 = px_ps b n a1.toNat)) (i8 : (x5 ≠ 0 → px_sp b n a0.toNat a1.toNat x6)) (i9 : (x5 = 0 → ¬ px_sn b n a0.toNat a1.toNat)) (hQ71 : ∀ (x1 x3 x4 x5 x6 : Int) (_ : True), (0 ≤ x1 ∧ x1 ≤ 239) → (0 ≤ x3 ∧ x3 ≤ 240) → (0 ≤ x4 ∧ x4 ≤ 240) → (0 ≤ x5 ∧ x5 ≤ 1) → (0 ≤ x6 ∧ x6 ≤ 240) → (a0 = x1) → (x3 = px_ps b n a0.toNat) → (x4 = px_ps b n a1.toNat) → (x5 ≠ 0 → px_sp b n a0.toNat a1.toNat x6) → (x5 = 0 → ¬ px_sn b n a0.toNat a1.toNat) → (17179869184 + (2147483647 - x6).toNat < mm) → Q 71 [(0, .inr (.inl 2)), (1, .inl x1), (3, .inl x3), (4, .inl x4), (5, .inl x5), (6, .inl x6)] s) : sx_wp true sL sx eX8_sameName CALL [(71, [0, 1, 3, 4, 5, 6])] Q R 400 71 [(0, .inr (.inl 2)), (1, .inl x1), (3, .inl x3), (4, .inl x4), (5, .inl x5), (6, .inl x6)] [] s := by
  have zzt := ((p4) trivial).1
  obtain ⟨zzr1, zzr2, zzr3⟩ := ((p4) trivial).2.1 a0.toNat (by omega)
  obtain ⟨zzr4, zzr5, zzr6⟩ := ((p4) trivial).2.1 a1.toNat (by omega)
  have hn := hI.fld 2 4 (by decide) rfl
  have zzg1 := px_en_le (b := b) (px_ps_le (b := b) (n := n) (by omega) a0.toNat)
  have zzg2 := px_en_le (b := b) (px_ps_le (b := b) (n := n) (by omega) a1.toNat)
  have zzg3 := px_ps_ge (b := b) (n := n) a0.toNat
  have zzg4 := px_ps_ge (b := b) (n := n) a1.toNat
  have zzg5 := px_en_ge (b := b) (n := n) (k := px_ps b n a0.toNat)
  have zzg6 := px_en_ge (b := b) (n := n) (k := px_ps b n a1.toNat)
  subst i5 i6 i7
  have zzl : x5 ≠ 0 → px_en b n (px_ps b n a0.toNat) - px_ps b n a0.toNat = px_en b n (px_ps b n a1.toNat) - px_ps b n a1.toNat := fun h => (i8 h trivial).1
  have zzy : sx_w true (x6 + 1) = x6 + 1 := px_wid (by omega) (by omega)
  have zzwA : sx_w true (px_ps b n a0.toNat + x6) = px_ps b n a0.toNat + x6 := px_wid (by omega) (by omega)
  have zzvA : s.2.1 3 (sx_w true (px_ps b n a0.toNat + x6)).toNat = b (px_ps b n a0.toNat + x6).toNat := by rw [zzwA, p2]
  have zzwB : sx_w true (px_ps b n a1.toNat + x6) = px_ps b n a1.toNat + x6 := px_wid (by omega) (by omega)
  have zzvB : s.2.1 3 (sx_w true (px_ps b n a1.toNat + x6)).toNat = b (px_ps b n a1.toNat + x6).toNat := by rw [zzwB, p2]
  have zzwC : sx_w true (s.2.1 6 a0.toNat - px_ps b n a0.toNat) = px_en b n (px_ps b n a0.toNat) - px_ps b n a0.toNat := by rw [zzr3]; exact px_wid (by omega) (by omega)
  repeat' (first | (with_reducible (rintro _ rfl)) | (with_reducible intro _) | (refine And.intro ?_ ?_) | (refine hK _ ?_ ?_ ?_) | (refine hQ71 _ _ _ _ _ trivial ?_ ?_ ?_ ?_ ?_ ?_ ?_ ?_ ?_ ?_ ?_))
  all_goals (try dsimp only)
  repeat' (first | (with_reducible assumption) | ((with_reducible (change cx_I (sx_uf _ _ _ _, _))); refine cx_I_uf rfl rfl ?_ ?_ ?_) | ((with_reducible (change cx_I (_, sx_ua _ _ _ _, _))); refine cx_I_ua rfl rfl ?_ ?_ ?_) | ((with_reducible (change cx_I (_, sx_ua _ 16 _ _, _))); refine cx_I_ari ?_ ?_ ?_) | ((with_reducible (change cx_I (sx_uf _ 11 6 _, _))); refine cx_I_ufA rfl ?_ ?_ ?_ ?_) | (with_reducible exact cx_F_refl _ _) | ((with_reducible (change cx_F _ _ (sx_uf _ _ _ _, _))); refine cx_F_uf rfl ?_) | ((with_reducible (change cx_F _ _ (_, sx_ua _ _ _ _, _))); refine cx_F_ua rfl ?_) | ((with_reducible (change cx_I (_, sx_cpy _ _ _ _ _ _, _))); refine cx_I_cpy rfl rfl rfl (by decide) ?_) | ((with_reducible (change cx_F _ _ (_, sx_cpy _ _ _ _ _ _, _))); refine cx_F_cpy rfl ?_) | ((with_reducible (change cx_F _ _ _)); refine cx_F_step (by assumption) rfl ?_) | ((with_reducible (change rf_f _ _ (sx_uf _ 66 _ _, _))); refine rf_f_uf rfl ?_) | ((with_reducible (change rf_f _ _ _)); exact (fun _ _ => rfl)) | ((with_reducible (change rf_f _ _ (_, sx_ua _ _ _ _, _))); refine rf_f_ua ?_) | ((with_reducible (change rf_f _ _ _)); assumption) | ((with_reducible (change rf_f _ _ _)); refine rf_f_step (by assumption) rfl ?_) | ((with_reducible (change rf_f _ _ _)); refine rf_f_F (by assumption) rfl ?_) | ((with_reducible (change px_g1 _ _ _ (_, sx_ua _ _ _ _, _))); refine px_g1_ua rfl (by omega) ?_) | ((with_reducible (change px_g1 _ _ _ _)); exact px_g1_refl _ _ _) | ((with_reducible (change px_g1 _ _ _ _)); assumption) | ((with_reducible (change sx_ua _ _ _ _ _ = _)); refine px_a_ua rfl ?_) | ((with_reducible (change px_RT _ _ _ (sx_uf _ _ _ _, _))); refine px_RT_uf ?_) | ((with_reducible (change px_RT _ _ _ (_, sx_ua _ 69 _ _, _))); refine px_RT_up (by assumption) (by assumption) (by assumption) (by assumption) (by assumption) (by omega) (px_bl_st (by assumption) (by omega)) (by omega)) | ((with_reducible (change px_RT _ _ _ (_, sx_ua _ _ _ _, _))); refine px_RT_ua rfl ?_) | ((with_reducible (change px_RT _ _ 0 _)); exact px_RT_0) | ((with_reducible (change px_RT _ _ _ _)); assumption) | ((with_reducible (change px_RT _ _ _ _)); refine px_RT_F (by assumption) rfl rfl rfl ?_) | ((with_reducible (change px_REx _ _ _)); exact px_REx_mk (by assumption) (by assumption) (by omega) (by omega)) | ((with_reducible (change (_ : sx_S).1 _ _ = _)); refine px_f_F (by assumption) rfl ?_) | ((with_reducible (change (_ : sx_S).2.1 _ = _)); refine px_a_F (by assumption) rfl ?_) | ((with_reducible (change sx_uf _ _ _ _ _ _ = _)); refine px_f_uf rfl ?_) | ((with_reducible (change px_DT _ _ _ (sx_uf _ _ _ _, _))); refine px_DT_uf ?_) | ((with_reducible (change px_DT _ _ _ _)); assumption) | ((with_reducible (change px_DT _ _ _ _)); refine px_DT_F (by assumption) rfl rfl rfl ?_) | ((with_reducible (change px_TK _ _ (sx_uf _ _ _ _, _))); refine px_TK_uf rfl ?_) | ((with_reducible (change px_TK _ _ _)); assumption) | ((with_reducible (change px_TK _ _ _)); refine px_TK_F (by assumption) rfl rfl rfl rfl ?_) | ((with_reducible (change rf_A _ (sx_uf _ _ _ _, _))); refine rf_A_uf ?_) | ((with_reducible (change rf_A _ (_, sx_ua _ _ _ _, _))); refine rf_A_ua rfl ?_) | ((with_reducible (change rf_A _ _)); assumption) | ((with_reducible (change rf_A _ _)); refine rf_A_F (by assumption) rfl ?_) | ((with_reducible (change px_RQ _ _ (sx_uf _ _ _ _, _))); refine px_RQ_uf ?_) | ((with_reducible (change px_RQ _ _ (_, sx_ua _ _ _ _, _))); refine px_RQ_ua rfl ?_) | ((with_reducible (change px_RQ _ _ _)); assumption) | ((with_reducible (change px_RQ _ _ _)); refine px_RQ_F (by assumption) rfl ?_) | fail)
  all_goals (try dsimp only at *)
  all_goals (first | ((with_reducible (change px_sn _ _ _ _)); exact px_sp_end (by first | assumption | (apply_assumption; omega)) (by omega)) | ((with_reducible (change px_sp _ _ _ _ _)); first | exact px_sp_0 (by omega) (by omega) | (rw [zzy]; exact px_sp_go (by first | assumption | (apply_assumption; omega)) (by omega))) | ((with_reducible (change ¬ px_sn _ _ _ _)); first | (apply_assumption; omega) | exact px_sn_nl (by omega) | exact px_sn_no (x := x6) (by omega) (by omega) (by omega)) | trivial | assumption | rfl | omega | (exfalso; omega) | (subst_vars; omega) | (exact (hI.arr 3 (by decide) rfl _).1) | (exact (hI.arr 3 (by decide) rfl _).2) | skip)

theorem c_dx_sameName {sL : Nat} {sx : Nat → Int32} (hsL : sL ≤ 3072) (d : Nat) (hd : 2 ≤ d) (b : Nat → Int) (n : Int) : ∀ (a0 a1 : Int) (s : sx_S) (K : Int → sx_S → Prop), cx_I s → (0 ≤ a0 ∧ a0 ≤ 239) → (0 ≤ a1 ∧ a1 ≤ 239) → (s.2.1 3 = b) → (s.1 2 4 = n) → (px_TK b n s) → (a0 < s.1 2 5 ∧ a1 < s.1 2 5) → (∀ z : Int, (z = 0 ∨ z = 1) → (z ≠ 0 → px_sn b n a0.toNat a1.toNat) → (z = 0 → ¬ px_sn b n a0.toNat a1.toNat) → K z s) → sx_C sL sx d 105 [.inr (.inl 2), .inl a0, .inl a1] s K := by
  intro a0 a1 s K hI p0 p1 p2 p3 p4 p5 hK
  obtain ⟨d, rfl⟩ : ∃ e, d = e + 2 := ⟨d - 2, by omega⟩
  refine sx_methL (wr := true) (n := 400) (n' := 400) (stop := [(71, [0, 1, 3, 4, 5, 6])]) (fun nn pc ls u => (pc = 71 ∧ ∃ (x1 x3 x4 x5 x6 : Int), ls = [(0, .inr (.inl 2)), (1, .inl x1), (3, .inl x3), (4, .inl x4), (5, .inl x5), (6, .inl x6)] ∧ u = s ∧ (0 ≤ x1 ∧ x1 ≤ 239) ∧ (0 ≤ x3 ∧ x3 ≤ 240) ∧ (0 ≤ x4 ∧ x4 ≤ 240) ∧ (0 ≤ x5 ∧ x5 ≤ 1) ∧ (0 ≤ x6 ∧ x6 ≤ 240) ∧ (a0 = x1) ∧ (x3 = px_ps b n a0.toNat) ∧ (x4 = px_ps b n a1.toNat) ∧ (x5 ≠ 0 → px_sp b n a0.toNat a1.toNat x6) ∧ (x5 = 0 → ¬ px_sn b n a0.toNat a1.toNat) ∧ nn = 17179869184 + (2147483647 - x6).toNat)) hsL (e := eX8_sameName) rfl ?_ ?_
  · exact w_dx_sameName  hI p0 p1 p2 p3 p4 p5 hK (fun x1 x3 x4 x5 x6 _ i0 i1 i2 i3 i4 i5 i6 i7 i8 i9 => ⟨_, ⟨rfl, x1, x3, x4, x5, x6, rfl, rfl, i0, i1, i2, i3, i4, i5, i6, i7, i8, i9, rfl⟩⟩)
  · rintro nn pc ls u (⟨rfl, x1, x3, x4, x5, x6, rfl, rfl, i0, i1, i2, i3, i4, i5, i6, i7, i8, i9, rfl⟩)
    · exact w_dx_sameName_71  hI p0 p1 p2 p3 p4 p5 hK rfl i0 i1 i2 i3 i4 i5 i6 i7 i8 i9 (fun x1 x3 x4 x5 x6 _ i0 i1 i2 i3 i4 i5 i6 i7 i8 i9 hm => ⟨_, hm, ⟨rfl, x1, x3, x4, x5, x6, rfl, rfl, i0, i1, i2, i3, i4, i5, i6, i7, i8, i9, rfl⟩⟩)

theorem w_dt_arrow {CALL : sx_Ca} {sL : Nat} {sx : Nat → Int32} {Q : Nat → sx_L → sx_S → Prop} {R : Int → sx_S → Prop} {s : sx_S} {a0 a1 : Int} (hI : cx_I s) (p0 : -1 ≤ a0 ∧ a0 ≤ 255) (p1 : -1 ≤ a1 ∧ a1 ≤ 255) (p2 : 2 ≤ s.1 8 2 ∧ s.1 8 2 < 256) (hK1 : ∀ z : Int, 2 ≤ z → z < s.1 8 2 → (s.2.1 9 z.toNat = a0 ∧ s.2.1 10 z.toNat = a1) → R z s) (hK0 : (∀ z : Int, 2 ≤ z → z < s.1 8 2 → ¬ (s.2.1 9 z.toNat = a0 ∧ s.2.1 10 z.toNat = a1)) → R (s.1 8 2) (sx_uf s.1 8 2 (s.1 8 2 + 1), sx_ua (sx_ua s.2.1 9 (s.1 8 2).toNat a0) 10 (s.1 8 2).toNat a1, s.2.2)) (hQ2 : ∀ y3 : Int, 2 ≤ y3 → y3 ≤ s.1 8 2 → (∀ z : Int, 2 ≤ z → z < y3 → ¬ (s.2.1 9 z.toNat = a0 ∧ s.2.1 10 z.toNat = a1)) → Q 2 [(0, .inr (.inl 8)), (1, .inl a0), (2, .inl a1), (3, .inl y3)] s) : sx_wp true sL sx eX9_arrow CALL [(2, [0, 1, 2, 3])] Q R 400 0 (sx_argsF 0 [.inr (.inl 8), .inl a0, .inl a1]) [] s := hQ2 2 (by omega) (by omega) (fun z h1 h2 => by omega)
theorem w_dt_arrow_2 {CALL : sx_Ca} {sL : Nat} {sx : Nat → Int32} {Q : Nat → sx_L → sx_S → Prop} {R : Int → sx_S → Prop} {s : sx_S} {a0 a1 : Int} (hI : cx_I s) (p0 : -1 ≤ a0 ∧ a0 ≤ 255) (p1 : -1 ≤ a1 ∧ a1 ≤ 255) (p2 : 2 ≤ s.1 8 2 ∧ s.1 8 2 < 256) (hK1 : ∀ z : Int, 2 ≤ z → z < s.1 8 2 → (s.2.1 9 z.toNat = a0 ∧ s.2.1 10 z.toNat = a1) → R z s) (hK0 : (∀ z : Int, 2 ≤ z → z < s.1 8 2 → ¬ (s.2.1 9 z.toNat = a0 ∧ s.2.1 10 z.toNat = a1)) → R (s.1 8 2) (sx_uf s.1 8 2 (s.1 8 2 + 1), sx_ua (sx_ua s.2.1 9 (s.1 8 2).toNat a0) 10 (s.1 8 2).toNat a1, s.2.2)) {x3 : Int} (q0 : 2 ≤ x3) (q1 : x3 ≤ s.1 8 2) (q2 : ∀ z : Int, 2 ≤ z → z < x3 → ¬ (s.2.1 9 z.toNat = a0 ∧ s.2.1 10 z.toNat = a1)) (hQ2 : ∀ y3 : Int, 2 ≤ y3 → y3 ≤ s.1 8 2 → (∀ z : Int, 2 ≤ z → z < y3 → ¬ (s.2.1 9 z.toNat = a0 ∧ s.2.1 10 z.toNat = a1)) → x3 < y3 → Q 2 [(0, .inr (.inl 8)), (1, .inl a0), (2, .inl a1), (3, .inl y3)] s) : sx_wp true sL sx eX9_arrow CALL [(2, [0, 1, 2, 3])] Q R 400 2 [(0, .inr (.inl 8)), (1, .inl a0), (2, .inl a1), (3, .inl x3)] [] s := by
  have zzy : sx_w true (x3 + 1) = x3 + 1 := px_wid (by omega) (by omega)
  have zzu : sx_w true (s.1 8 2 + 1) = s.1 8 2 + 1 := px_wid (by omega) (by omega)
  have zzv : sx_w true (s.1 8 2 + 1 - 1) = s.1 8 2 := by rw [px_wid (by omega) (by omega)]; omega
  have zz9 := hI.arr 9 (by decide) rfl x3.toNat
  have zz10 := hI.arr 10 (by decide) rfl x3.toNat
  have zzn : ¬ (s.2.1 9 x3.toNat = a0 ∧ s.2.1 10 x3.toNat = a1) → ∀ z : Int, 2 ≤ z → z < x3 + 1 → ¬ (s.2.1 9 z.toNat = a0 ∧ s.2.1 10 z.toNat = a1) := fun h z h1 h2 => by
    by_cases q : z < x3
    · exact q2 z h1 q
    · have : z = x3 := by omega
      rw [this]
      exact h
  have zzk : s.1 8 2 ≤ x3 → R (s.1 8 2) (sx_uf s.1 8 2 (sx_w true (s.1 8 2 + 1)), sx_ua (sx_ua s.2.1 9 (s.1 8 2).toNat a0) 10 (s.1 8 2).toNat a1, s.2.2) := fun h => by
    rw [zzu]
    exact hK0 (fun z h1 h2 => q2 z h1 (by omega))
  repeat' (first | (with_reducible (rintro _ rfl)) | (with_reducible intro _) | (refine And.intro ?_ ?_))
  all_goals (try dsimp only at *)
  all_goals (first | trivial | omega | (exfalso; omega) | (exact hK1 _ q0 (by omega) ⟨by assumption, by assumption⟩) | (exact hQ2 _ (by rw [zzy]; omega) (by rw [zzy]; omega) (by rw [zzy]; exact zzn (fun zz8 => by first | exact absurd zz8.1 (by assumption) | exact absurd zz8.2 (by assumption))) (by rw [zzy]; omega)) | (exact cx_I_ua rfl rfl hI (by omega) (by omega)) | (exact cx_I_ua rfl rfl (cx_I_ua rfl rfl hI (by omega) (by omega)) (by omega) (by omega)) | (exact cx_I_uf rfl rfl (cx_I_ua rfl rfl (cx_I_ua rfl rfl hI (by omega) (by omega)) (by omega) (by omega)) (by rw [zzu]; omega) (by rw [zzu]; omega)) | (show R _ _; simp only [px_us, zzu, zzv]; exact hK0 (fun z h1 h2 => q2 z h1 (by omega))) | (simp only [px_us, zzu, zzv] at *; omega) | skip)
theorem c_dt_arrow {sL : Nat} {sx : Nat → Int32} (hsL : sL ≤ 3072) (d : Nat) (hd : 2 ≤ d) : ∀ (a0 a1 : Int) (s : sx_S) (R : Int → sx_S → Prop), cx_I s → (-1 ≤ a0 ∧ a0 ≤ 255) → (-1 ≤ a1 ∧ a1 ≤ 255) → (2 ≤ s.1 8 2 ∧ s.1 8 2 < 256) → (∀ z : Int, 2 ≤ z → z < s.1 8 2 → (s.2.1 9 z.toNat = a0 ∧ s.2.1 10 z.toNat = a1) → R z s) → ((∀ z : Int, 2 ≤ z → z < s.1 8 2 → ¬ (s.2.1 9 z.toNat = a0 ∧ s.2.1 10 z.toNat = a1)) → R (s.1 8 2) (sx_uf s.1 8 2 (s.1 8 2 + 1), sx_ua (sx_ua s.2.1 9 (s.1 8 2).toNat a0) 10 (s.1 8 2).toNat a1, s.2.2)) → sx_C sL sx d 119 [.inr (.inl 8), .inl a0, .inl a1] s R := by
  intro a0 a1 s R hI p0 p1 p2 hK1 hK0
  obtain ⟨d, rfl⟩ : ∃ e, d = e + 2 := ⟨d - 2, by omega⟩
  refine sx_methL (wr := true) (n := 400) (n' := 400) (stop := [(2, [0, 1, 2, 3])]) (fun nn pc ls u => pc = 2 ∧ ∃ x3 : Int, ls = [(0, .inr (.inl 8)), (1, .inl a0), (2, .inl a1), (3, .inl x3)] ∧ u = s ∧ 2 ≤ x3 ∧ x3 ≤ s.1 8 2 ∧ (∀ z : Int, 2 ≤ z → z < x3 → ¬ (s.2.1 9 z.toNat = a0 ∧ s.2.1 10 z.toNat = a1)) ∧ nn = (300 - x3).toNat) hsL (e := eX9_arrow) rfl ?_ ?_
  · exact w_dt_arrow hI p0 p1 p2 hK1 hK0 (fun y3 r0 r1 r2 => ⟨_, rfl, y3, rfl, rfl, r0, r1, r2, rfl⟩)
  · rintro nn pc ls u ⟨rfl, x3, rfl, rfl, q0, q1, q2, rfl⟩
    exact w_dt_arrow_2 hI p0 p1 p2 hK1 hK0 q0 q1 q2 (fun y3 r0 r1 r2 hm => ⟨_, by omega, rfl, y3, rfl, rfl, r0, r1, r2, rfl⟩)
end
section
/-! ===== the desk: one number a type ===== -/
def dx_is (s : sx_S) (x : qx_T) (z : Int) : Prop := qx_ty (s.2.1 9) (s.2.1 10) (s.1 8 2) x z
def dx_tu (s t : sx_S) : Prop := ∀ j : Nat, s.1 8 2 ≤ t.1 8 2 ∧ ((j : Int) < s.1 8 2 → t.2.1 9 j = s.2.1 9 j ∧ t.2.1 10 j = s.2.1 10 j)
/-- no two numbers for one type -/
def dx_TI (s : sx_S) : Prop := ∀ i j : Int, 2 ≤ i → i < s.1 8 2 → 2 ≤ j → j < s.1 8 2 → s.2.1 9 i.toNat = s.2.1 9 j.toNat → s.2.1 10 i.toNat = s.2.1 10 j.toNat → i = j
theorem dx_is_up {s t : sx_S} {x : qx_T} {z : Int} (h : dx_is s x z) (hu : dx_tu s t) : dx_is t x z := qx_ty_mono (fun j => (hu j).2) (hu 0).1 h
theorem dx_tu_refl (s : sx_S) : dx_tu s s := fun _ => ⟨Int.le_refl _, fun _ => ⟨rfl, rfl⟩⟩
theorem dx_tu_trans {s t u : sx_S} (h2 : dx_tu t u) (h1 : dx_tu s t) : dx_tu s u := fun j => ⟨Int.le_trans (h1 j).1 (h2 j).1, fun hj => by
  obtain ⟨a1, a2⟩ := (h1 j).2 hj
  obtain ⟨b1, b2⟩ := (h2 j).2 (Int.lt_of_lt_of_le hj (h1 j).1)
  exact ⟨b1.trans a1, b2.trans a2⟩⟩
theorem dx_inj {s : sx_S} (hT : dx_TI s) : ∀ {x : qx_T} {i j : Int}, dx_is s x i → dx_is s x j → i = j
  | .leaf, i, j, h, g => by
    have h0 : i = 0 := h
    have g0 : j = 0 := g
    omega
  | .inner n k _ x y, i, j, h, g => by
    rcases h.2 with ⟨h1, _, _, h2⟩ | ⟨h1, h2, h3, h4⟩ <;> rcases g.2 with ⟨g1, _, _, g2⟩ | ⟨g1, g2, g3, g4⟩
    · omega
    · rw [h1] at g1
      cases g1
    · rw [h1] at g1
      cases g1
    · exact hT i j h2.1 h2.2 g2.1 g2.2 (dx_inj hT h3 g3) (dx_inj hT h4 g4)
theorem dx_rng {s : sx_S} {x : qx_T} {z : Int} (h : dx_is s x z) (h2 : 2 ≤ s.1 8 2) : 0 ≤ z ∧ z < s.1 8 2 := by
  obtain ⟨a1, a2, a3, a4, a5, a6⟩ := qx_ty_01 h
  by_cases q : 2 ≤ z
  · exact ⟨a1, a6 q⟩
  · omega
/-- a new number -/
theorem dx_new {s : sx_S} {a0 a1 : Int} {x y : qx_T} (h2 : 2 ≤ s.1 8 2) (hx : dx_is s x a0) (hy : dx_is s y a1) (hT : dx_TI s) (hn : ∀ z : Int, 2 ≤ z → z < s.1 8 2 → ¬ (s.2.1 9 z.toNat = a0 ∧ s.2.1 10 z.toNat = a1)) : dx_is (sx_uf s.1 8 2 (s.1 8 2 + 1), sx_ua (sx_ua s.2.1 9 (s.1 8 2).toNat a0) 10 (s.1 8 2).toNat a1, s.2.2) (qx_a x y) (s.1 8 2) ∧ dx_TI (sx_uf s.1 8 2 (s.1 8 2 + 1), sx_ua (sx_ua s.2.1 9 (s.1 8 2).toNat a0) 10 (s.1 8 2).toNat a1, s.2.2) ∧ dx_tu s (sx_uf s.1 8 2 (s.1 8 2 + 1), sx_ua (sx_ua s.2.1 9 (s.1 8 2).toNat a0) 10 (s.1 8 2).toNat a1, s.2.2) := by
  have e2 : sx_uf s.1 8 2 (s.1 8 2 + 1) 8 2 = s.1 8 2 + 1 := px_us _ _ _ _
  have c9 : (sx_ua (sx_ua s.2.1 9 (s.1 8 2).toNat a0) 10 (s.1 8 2).toNat a1) 9 = fun j => if j = (s.1 8 2).toNat then a0 else s.2.1 9 j := by
    rw [sx_ua_ne (by decide), sx_ua_same]
  have c10 : (sx_ua (sx_ua s.2.1 9 (s.1 8 2).toNat a0) 10 (s.1 8 2).toNat a1) 10 = fun j => if j = (s.1 8 2).toNat then a1 else s.2.1 10 j := by
    rw [sx_ua_same, sx_ua_ne (by decide)]
  have hu : dx_tu s (sx_uf s.1 8 2 (s.1 8 2 + 1), sx_ua (sx_ua s.2.1 9 (s.1 8 2).toNat a0) 10 (s.1 8 2).toNat a1, s.2.2) := fun j => ⟨by dsimp only; rw [e2]; omega, fun hj => by
    dsimp only
    rw [c9, c10]
    dsimp only
    rw [if_neg (by omega), if_neg (by omega)]
    exact ⟨rfl, rfl⟩⟩
  refine ⟨⟨rfl, Or.inr ⟨rfl, ⟨h2, by dsimp only; rw [e2]; omega⟩, ?_, ?_⟩⟩, fun i j i1 i2 j1 j2 => ?_, hu⟩
  · have := dx_is_up hx hu
    dsimp only
    rw [show (sx_ua (sx_ua s.2.1 9 (s.1 8 2).toNat a0) 10 (s.1 8 2).toNat a1) 9 (s.1 8 2).toNat = a0 by rw [c9]; exact if_pos rfl]
    exact this
  · have := dx_is_up hy hu
    dsimp only
    rw [show (sx_ua (sx_ua s.2.1 9 (s.1 8 2).toNat a0) 10 (s.1 8 2).toNat a1) 10 (s.1 8 2).toNat = a1 by rw [c10]; exact if_pos rfl]
    exact this
  · dsimp only at i2 j2 ⊢
    rw [e2] at i2 j2
    rw [c9, c10]
    dsimp only
    by_cases qi : i = s.1 8 2 <;> by_cases qj : j = s.1 8 2
    · intro _ _
      omega
    · rw [if_pos (by omega), if_neg (by omega), if_pos (by omega), if_neg (by omega)]
      intro q1 q2
      exact absurd ⟨q1.symm, q2.symm⟩ (hn j j1 (by omega))
    · rw [if_neg (by omega), if_pos (by omega), if_neg (by omega), if_pos (by omega)]
      intro q1 q2
      exact absurd ⟨q1, q2⟩ (hn i i1 (by omega))
    · rw [if_neg (by omega), if_neg (by omega), if_neg (by omega), if_neg (by omega)]
      exact hT i j i1 (by omega) j1 (by omega)
theorem c_du_arrow {sL : Nat} {sx : Nat → Int32} (hsL : sL ≤ 3072) (d : Nat) (hd : 2 ≤ d) : ∀ (x y : qx_T) (a0 a1 : Int) (s : sx_S) (R : Int → sx_S → Prop), cx_I s → dx_is s x a0 → dx_is s y a1 → dx_TI s → (2 ≤ s.1 8 2 ∧ s.1 8 2 < 256) → (∀ (z : Int) (t : sx_S), cx_I t → cx_F [(8, 10)] s t → dx_is t (qx_a x y) z → dx_TI t → dx_tu s t → t.1 8 2 ≤ s.1 8 2 + 1 → R z t) → sx_C sL sx d 119 [.inr (.inl 8), .inl a0, .inl a1] s R := by
  intro x y a0 a1 s R hI hx hy hT h2 hK
  have r0 := dx_rng hx h2.1
  have r1 := dx_rng hy h2.1
  refine c_dt_arrow hsL d hd a0 a1 s R hI (by omega) (by omega) h2 (fun z z1 z2 z3 => hK z s hI (cx_F_refl _ _) ⟨rfl, Or.inr ⟨rfl, ⟨z1, z2⟩, by rw [z3.1]; exact hx, by rw [z3.2]; exact hy⟩⟩ hT (dx_tu_refl s) (by omega)) (fun hn => ?_)
  obtain ⟨n1, n2, n3⟩ := dx_new h2.1 hx hy hT hn
  refine hK _ _ (cx_I_uf rfl rfl (cx_I_ua rfl rfl (cx_I_ua rfl rfl hI (by omega) (by omega)) (by omega) (by omega)) (by omega) (by omega)) (cx_F_uf rfl (cx_F_ua rfl (cx_F_ua rfl (cx_F_refl _ _)))) n1 n2 n3 ?_
  dsimp only
  rw [px_us]
  omega
end
