/-! ===== the desk's grammar, exactly: atoms, types ===== -/
theorem px_uu (F : Nat → Nat → Int) (p k : Nat) (v w : Int) : sx_uf (sx_uf F p k v) p k w = sx_uf F p k w := by
  funext p' k'
  simp only [sx_uf_if]
  split <;> rfl
theorem px_ui {F : Nat → Nat → Int} {p k : Nat} {v : Int} (h : v = F p k) : sx_uf F p k v = F := by
  funext p' k'
  rw [sx_uf_if]
  split
  · rename_i q
    rw [q.1, q.2]
    exact h
  · rfl
theorem px_us (F : Nat → Nat → Int) (p k : Nat) (v : Int) : sx_uf F p k v p k = v := by
  rw [sx_uf_if, if_pos ⟨rfl, rfl⟩]
/-- an ATOM, what is in it of depth below f -/
def px_AM (K : Nat → Int) (f : Nat) (a : Int) (y : qx_T) (e : Int) : Prop := (K a.toNat = 6 ∧ y = qx_o ∧ e = a + 1) ∨ (K a.toNat = 7 ∧ y = qx_i ∧ e = a + 1) ∨ (K a.toNat = 9 ∧ ∃ g, px_TY K f (a + 1) y g ∧ K g.toNat = 10 ∧ e = g + 1)
theorem px_cI {b : Nat → Int} {n c : Int} {s : sx_S} (hI : cx_I s) (h : px_TK b n s) (h0 : 0 ≤ c) (hl : px_lv b n c.toNat) : cx_I (sx_uf s.1 7 1 c, s.2) := by
  have zzk := px_TK_kd h h0 hl
  have zzt := (h trivial).1
  exact cx_I_uf rfl rfl hI (by omega) (by omega)
theorem px_am_k {K : Nat → Int} {f : Nat} {a c : Int} {x : qx_T} (h9 : K a.toNat = 9) (ht : px_TY K f (a + 1) x c) (hk : K c.toNat ≠ 10) : ∀ y e, ¬ px_AM K f a y e := by
  rintro y e (⟨q, _⟩ | ⟨q, _⟩ | ⟨_, g, q1, q2, _⟩)
  · omega
  · omega
  · obtain ⟨_, rfl⟩ := px_TY_fun ht q1
    exact hk q2
theorem px_am_t {K : Nat → Int} {f : Nat} {a : Int} (h9 : K a.toNat = 9) (ht : ∀ x c, ¬ px_TY K f (a + 1) x c) : ∀ y e, ¬ px_AM K f a y e := by
  rintro y e (⟨q, _⟩ | ⟨q, _⟩ | ⟨_, g, q1, _⟩)
  · omega
  · omega
  · exact ht _ _ q1
theorem px_am_n {K : Nat → Int} {f : Nat} {a : Int} (h6 : K a.toNat ≠ 6) (h7 : K a.toNat ≠ 7) (h9 : K a.toNat ≠ 9) : ∀ y e, ¬ px_AM K f a y e := by
  rintro y e (⟨q, _⟩ | ⟨q, _⟩ | ⟨q, _⟩)
  · exact h6 q
  · exact h7 q
  · exact h9 q
theorem px_TY_it {K : Nat → Int} {f : Nat} {a : Int} {x : qx_T} {c : Int} : px_TY K (f + 1) a x c ↔ ∃ y e, px_AM K f a y e ∧ ((K e.toNat = 8 ∧ ∃ w, px_TY K f (e + 1) w c ∧ x = qx_a y w) ∨ (K e.toNat ≠ 8 ∧ x = y ∧ c = e)) := Iff.rfl

theorem w_dg_atom {CALL : sx_Ca} {b : Nat → Int} {n : Int} {g : Nat} {sL : Nat} {sx : Nat → Int32} {Q : Nat → sx_L → sx_S → Prop} {R : Int → sx_S → Prop} (h_tk : ∀ (k : Int) (s : sx_S) (K : Int → sx_S → Prop), cx_I s → (2 ≤ k ∧ k ≤ 15) → (px_TK b n s) → (0 ≤ s.1 7 1) → (px_lv b n (s.1 7 1).toNat) → (px_K b n (s.1 7 1).toNat = k → K 1 (sx_uf s.1 7 1 (s.1 7 1 + 1), s.2)) → (px_K b n (s.1 7 1).toNat ≠ k → K 0 s) → CALL 37 [.inr (.inl 7), .inl k] s K) (h_ty : ∀ (a0 : Int) (s : sx_S) (K : Int → sx_S → Prop), cx_I s → a0 = 21 - (g : Int) → (px_TK b n s) → (0 ≤ s.1 7 1) → (px_lv b n (s.1 7 1).toNat) → (∀ x c, px_TY (px_K b n) g (s.1 7 1) x c → 0 ≤ c → px_lv b n c.toNat → K 1 (sx_uf s.1 7 1 c, s.2)) → ((∀ x c, ¬ px_TY (px_K b n) g (s.1 7 1) x c) → ∀ c, 0 ≤ c → px_lv b n c.toNat → K 0 (sx_uf s.1 7 1 c, s.2)) → CALL 39 [.inr (.inl 7), .inl a0] s K) {s : sx_S} {a0 : Int} (hI : cx_I s) (p0 : a0 = 20 - (g : Int)) (pg : g ≤ 20) (p1 : px_TK b n s) (p2 : 0 ≤ s.1 7 1) (p3 : px_lv b n (s.1 7 1).toNat) (hK1 : ∀ x c, px_AM (px_K b n) g (s.1 7 1) x c → 0 ≤ c → px_lv b n c.toNat → R 1 (sx_uf s.1 7 1 c, s.2)) (hK0 : (∀ x c, ¬ px_AM (px_K b n) g (s.1 7 1) x c) → ∀ c, 0 ≤ c → px_lv b n c.toNat → R 0 (sx_uf s.1 7 1 c, s.2)) : sx_wp true sL sx eX2_atom CALL [] Q R 400 0 (sx_argsF 0 [.inr (.inl 7), .inl a0]) [] s := by
  have zzq : sx_w true (a0 + 1) = 21 - (g : Int) := by rw [px_wid (by omega) (by omega)]; omega
  repeat' (first | (with_reducible (rintro _ rfl)) | (with_reducible intro _) | (refine And.intro ?_ ?_) | (refine h_tk _ _ _ ?_ ?_ ?_ ?_ ?_ ?_ ?_) | (refine h_ty _ _ _ ?_ ?_ ?_ ?_ ?_ ?_ ?_))
  all_goals (try dsimp only at *)
  all_goals (try simp only [px_us, px_uu] at *)
  all_goals (first | trivial | assumption | omega | (exact hK1 _ _ (Or.inl ⟨by assumption, rfl, rfl⟩) (by omega) (px_lv_up p3 p2 (by omega) rfl)) | (exact hK1 _ _ (Or.inr (Or.inl ⟨by assumption, rfl, rfl⟩)) (by omega) (px_lv_up p3 p2 (by omega) rfl)) | (exact (px_tk_at hI p1 p2 p3 (by omega)).1) | (exact px_lv_up p3 p2 (by omega) rfl) | (exact px_cI hI p1 (by assumption) (by assumption)) | (exact hK1 _ _ (Or.inr (Or.inr ⟨by assumption, _, by assumption, by assumption, rfl⟩)) (by omega) (px_lv_up (by assumption) (by assumption) (by omega) rfl)) | (exact hK0 (px_am_k (by assumption) (by assumption) (by assumption)) _ (by assumption) (by assumption)) | (exact hK0 (px_am_t (by assumption) (by assumption)) _ (by assumption) (by assumption)) | (have zz9 := hK0 (px_am_n (by assumption) (by assumption) (by assumption)) (s.1 7 1) p2 p3; rw [px_ui rfl] at zz9; exact zz9) | skip)
