/-! ===== the desk's grammar, exactly: types ===== -/
theorem px_ty_0 {K : Nat → Int} {f : Nat} {a : Int} (h : ∀ y e, ¬ px_AM K f a y e) : ∀ x c, ¬ px_TY K (f + 1) a x c := by
  rintro x c ⟨y, e, h1, _⟩
  exact h y e h1
theorem px_am_f {K : Nat → Int} {f : Nat} {a e e' : Int} {y y' : qx_T} (h : px_AM K f a y e) (h' : px_AM K f a y' e') : y = y' ∧ e = e' := by
  rcases h with ⟨q1, q2, q3⟩ | ⟨q1, q2, q3⟩ | ⟨q1, g, q2, q3, q4⟩ <;> rcases h' with ⟨p1, p2, p3⟩ | ⟨p1, p2, p3⟩ | ⟨p1, g', p2, p3, p4⟩
  · exact ⟨by rw [q2, p2], by omega⟩
  · omega
  · omega
  · omega
  · exact ⟨by rw [q2, p2], by omega⟩
  · omega
  · omega
  · omega
  · obtain ⟨z1, z2⟩ := px_TY_fun q2 p2
    exact ⟨z1, by omega⟩
theorem px_ty_n {K : Nat → Int} {f : Nat} {a e : Int} {y : qx_T} (h : px_AM K f a y e) (h8 : K e.toNat = 8) (ht : ∀ x c, ¬ px_TY K f (e + 1) x c) : ∀ x c, ¬ px_TY K (f + 1) a x c := by
  rintro x c ⟨y', e', h1, h2⟩
  obtain ⟨rfl, rfl⟩ := px_am_f h h1
  rcases h2 with ⟨_, w, q, _⟩ | ⟨q, _⟩
  · exact ht _ _ q
  · exact q h8
theorem px_ty_1 {K : Nat → Int} {f : Nat} {a e : Int} {y : qx_T} (h : px_AM K f a y e) (h8 : K e.toNat ≠ 8) : px_TY K (f + 1) a y e := ⟨y, e, h, Or.inr ⟨h8, rfl, rfl⟩⟩
theorem px_ty_2 {K : Nat → Int} {f : Nat} {a e c : Int} {y w : qx_T} (h : px_AM K f a y e) (h8 : K e.toNat = 8) (ht : px_TY K f (e + 1) w c) : px_TY K (f + 1) a (qx_a y w) c := ⟨y, e, h, Or.inl ⟨h8, w, ht, rfl⟩⟩

theorem w_dg_type0 {CALL : sx_Ca} {b : Nat → Int} {n : Int} {g : Nat} {sL : Nat} {sx : Nat → Int32} {Q : Nat → sx_L → sx_S → Prop} {R : Int → sx_S → Prop} {s : sx_S} {a0 : Int} (hI : cx_I s) (p0 : a0 = 21) (p1 : px_TK b n s) (p2 : 0 ≤ s.1 7 1) (p3 : px_lv b n (s.1 7 1).toNat) (hK1 : ∀ x c, px_TY (px_K b n) 0 (s.1 7 1) x c → 0 ≤ c → px_lv b n c.toNat → R 1 (sx_uf s.1 7 1 c, s.2)) (hK0 : (∀ x c, ¬ px_TY (px_K b n) 0 (s.1 7 1) x c) → ∀ c, 0 ≤ c → px_lv b n c.toNat → R 0 (sx_uf s.1 7 1 c, s.2)) : sx_wp true sL sx eX2_type CALL [] Q R 400 0 (sx_argsF 0 [.inr (.inl 7), .inl a0]) [] s := by
  have zz9 := hK0 (fun _ _ h => h) (s.1 7 1) p2 p3
  rw [px_ui rfl] at zz9
  repeat' (first | (with_reducible intro _) | (refine And.intro ?_ ?_))
  all_goals (try dsimp only at *)
  all_goals (first | exact zz9 | omega | (exfalso; omega))
theorem w_dg_type {CALL : sx_Ca} {b : Nat → Int} {n : Int} {g : Nat} {sL : Nat} {sx : Nat → Int32} {Q : Nat → sx_L → sx_S → Prop} {R : Int → sx_S → Prop} (h_tk : ∀ (k : Int) (s : sx_S) (K : Int → sx_S → Prop), cx_I s → (2 ≤ k ∧ k ≤ 15) → (px_TK b n s) → (0 ≤ s.1 7 1) → (px_lv b n (s.1 7 1).toNat) → (px_K b n (s.1 7 1).toNat = k → K 1 (sx_uf s.1 7 1 (s.1 7 1 + 1), s.2)) → (px_K b n (s.1 7 1).toNat ≠ k → K 0 s) → CALL 37 [.inr (.inl 7), .inl k] s K) (h_at : ∀ (a0 : Int) (s : sx_S) (K : Int → sx_S → Prop), cx_I s → a0 = 20 - (g : Int) → (px_TK b n s) → (0 ≤ s.1 7 1) → (px_lv b n (s.1 7 1).toNat) → (∀ x c, px_AM (px_K b n) g (s.1 7 1) x c → 0 ≤ c → px_lv b n c.toNat → K 1 (sx_uf s.1 7 1 c, s.2)) → ((∀ x c, ¬ px_AM (px_K b n) g (s.1 7 1) x c) → ∀ c, 0 ≤ c → px_lv b n c.toNat → K 0 (sx_uf s.1 7 1 c, s.2)) → CALL 40 [.inr (.inl 7), .inl a0] s K) (h_ty : ∀ (a0 : Int) (s : sx_S) (K : Int → sx_S → Prop), cx_I s → a0 = 21 - (g : Int) → (px_TK b n s) → (0 ≤ s.1 7 1) → (px_lv b n (s.1 7 1).toNat) → (∀ x c, px_TY (px_K b n) g (s.1 7 1) x c → 0 ≤ c → px_lv b n c.toNat → K 1 (sx_uf s.1 7 1 c, s.2)) → ((∀ x c, ¬ px_TY (px_K b n) g (s.1 7 1) x c) → ∀ c, 0 ≤ c → px_lv b n c.toNat → K 0 (sx_uf s.1 7 1 c, s.2)) → CALL 39 [.inr (.inl 7), .inl a0] s K) {s : sx_S} {a0 : Int} (hI : cx_I s) (p0 : a0 = 20 - (g : Int)) (pg : g ≤ 20) (p1 : px_TK b n s) (p2 : 0 ≤ s.1 7 1) (p3 : px_lv b n (s.1 7 1).toNat) (hK1 : ∀ x c, px_TY (px_K b n) (g + 1) (s.1 7 1) x c → 0 ≤ c → px_lv b n c.toNat → R 1 (sx_uf s.1 7 1 c, s.2)) (hK0 : (∀ x c, ¬ px_TY (px_K b n) (g + 1) (s.1 7 1) x c) → ∀ c, 0 ≤ c → px_lv b n c.toNat → R 0 (sx_uf s.1 7 1 c, s.2)) : sx_wp true sL sx eX2_type CALL [] Q R 400 0 (sx_argsF 0 [.inr (.inl 7), .inl a0]) [] s := by
  have zzq : sx_w true (a0 + 1) = 21 - (g : Int) := by rw [px_wid (by omega) (by omega)]; omega
  repeat' (first | (with_reducible (rintro _ rfl)) | (with_reducible intro _) | (refine And.intro ?_ ?_) | (refine h_tk _ _ _ ?_ ?_ ?_ ?_ ?_ ?_ ?_) | (refine h_ty _ _ _ ?_ ?_ ?_ ?_ ?_ ?_ ?_) | (refine h_at _ _ _ ?_ ?_ ?_ ?_ ?_ ?_ ?_))
  all_goals (try dsimp only at *)
  all_goals (try simp only [px_us, px_uu] at *)
  all_goals (first | trivial | assumption | omega | (exact px_cI hI p1 (by assumption) (by assumption)) | (exact px_cI hI p1 (by omega) (px_lv_up (by assumption) (by assumption) (by omega) rfl)) | (exact px_lv_up (by assumption) (by assumption) (by omega) rfl) | (exact hK0 (px_ty_0 (by assumption)) _ (by assumption) (by assumption)) | (exact hK1 _ _ (px_ty_1 (by assumption) (by assumption)) (by assumption) (by assumption)) | (exact hK1 _ _ (px_ty_2 (by assumption) (by assumption) (by assumption)) (by assumption) (by assumption)) | (exact hK0 (px_ty_n (by assumption) (by assumption) (by assumption)) _ (by assumption) (by assumption)) | skip)

theorem c_dg_type {sL : Nat} {sx : Nat → Int32} (hsL : sL ≤ 3072) (b : Nat → Int) (n : Int) : ∀ g : Nat, g ≤ 21 → ∀ d, 4 + 2 * g ≤ d → ∀ (a0 : Int) (s : sx_S) (K : Int → sx_S → Prop), cx_I s → a0 = 21 - (g : Int) → (px_TK b n s) → (0 ≤ s.1 7 1) → (px_lv b n (s.1 7 1).toNat) → (∀ x c, px_TY (px_K b n) g (s.1 7 1) x c → 0 ≤ c → px_lv b n c.toNat → K 1 (sx_uf s.1 7 1 c, s.2)) → ((∀ x c, ¬ px_TY (px_K b n) g (s.1 7 1) x c) → ∀ c, 0 ≤ c → px_lv b n c.toNat → K 0 (sx_uf s.1 7 1 c, s.2)) → sx_C sL sx d 39 [.inr (.inl 7), .inl a0] s K := by
  intro g
  induction g with
  | zero =>
    intro _ d hd a0 s K hI p0 p1 p2 p3 hK1 hK0
    obtain ⟨e, rfl⟩ : ∃ e, d = e + 2 := ⟨d - 2, by omega⟩
    exact sx_meth (wr := true) (n := 400) hsL (e := eX2_type) rfl (w_dg_type0 (g := 0) (Q := fun _ _ _ => False) hI (by omega) p1 p2 p3 hK1 hK0)
  | succ g ih =>
    intro hg d hd a0 s K hI p0 p1 p2 p3 hK1 hK0
    obtain ⟨e, rfl⟩ : ∃ e, d = e + 3 := ⟨d - 3, by omega⟩
    have at0 : ∀ (a0 : Int) (s : sx_S) (K : Int → sx_S → Prop), cx_I s → a0 = 20 - (g : Int) → (px_TK b n s) → (0 ≤ s.1 7 1) → (px_lv b n (s.1 7 1).toNat) → (∀ x c, px_AM (px_K b n) g (s.1 7 1) x c → 0 ≤ c → px_lv b n c.toNat → K 1 (sx_uf s.1 7 1 c, s.2)) → ((∀ x c, ¬ px_AM (px_K b n) g (s.1 7 1) x c) → ∀ c, 0 ≤ c → px_lv b n c.toNat → K 0 (sx_uf s.1 7 1 c, s.2)) → sx_C sL sx (e + 2) 40 [.inr (.inl 7), .inl a0] s K := fun a0 s K hI p0 p1 p2 p3 hK1 hK0 => sx_meth (wr := true) (n := 400) hsL (e := eX2_atom) rfl (w_dg_atom (Q := fun _ _ _ => False) (c_dx_tk hsL (e + 1) (by omega) b n) (ih (by omega) (e + 1) (by omega)) hI p0 (by omega) p1 p2 p3 hK1 hK0)
    exact sx_meth (wr := true) (n := 400) hsL (e := eX2_type) rfl (w_dg_type (Q := fun _ _ _ => False) (c_dx_tk hsL (e + 2) (by omega) b n) at0 (ih (by omega) (e + 2) (by omega)) hI (by omega) (by omega) p1 p2 p3 hK1 hK0)
