/-! ===== the desk's grammar, exactly: terms ===== -/
theorem px_TM_it {K : Nat → Int} {f : Nat} {a : Int} {t : px_N} {c : Int} : px_TM K (f + 1) a t c ↔ (K a.toNat = 11 ∧ K (a + 1).toNat = 2 ∧ K (a + 1 + 1).toNat = 12 ∧ ∃ x e, px_TY K f (a + 1 + 1 + 1) x e ∧ K e.toNat = 13 ∧ ∃ u, px_TM K f (e + 1) u c ∧ t = px_lam (a + 1) x u .leaf) ∨ (K a.toNat = 2 ∧ ∃ r, px_AR K (px_TM K f) (a + 1) .leaf r c ∧ t = px_app a r .leaf) := by
  have e3 : a + 1 + 1 + 1 = a + 3 := by omega
  have e2 : a + 1 + 1 = a + 2 := by omega
  rw [e3, e2]
  exact Iff.rfl
theorem px_tm_a {K : Nat → Int} {f : Nat} {a : Int} (h : K a.toNat ≠ 11) (h2 : K a.toNat ≠ 2) : ∀ t c, ¬ px_TM K (f + 1) a t c := by
  rintro t c hh
  rcases px_TM_it.mp hh with ⟨q1, q2, q3, x', e', q4, q5, u', q6, _⟩ | ⟨q1, r, q2, _⟩
  · exact h q1
  · exact h2 q1
theorem px_tm_b {K : Nat → Int} {f : Nat} {a : Int} (h : K a.toNat = 11) (h2 : K (a + 1).toNat ≠ 2) : ∀ t c, ¬ px_TM K (f + 1) a t c := by
  rintro t c hh
  rcases px_TM_it.mp hh with ⟨q1, q2, q3, x', e', q4, q5, u', q6, _⟩ | ⟨q1, r, q2, _⟩
  · exact h2 q2
  · omega
theorem px_tm_c {K : Nat → Int} {f : Nat} {a : Int} (h : K a.toNat = 11) (h3 : K (a + 1 + 1).toNat ≠ 12) : ∀ t c, ¬ px_TM K (f + 1) a t c := by
  rintro t c hh
  rcases px_TM_it.mp hh with ⟨q1, q2, q3, x', e', q4, q5, u', q6, _⟩ | ⟨q1, r, q2, _⟩
  · exact h3 q3
  · omega
theorem px_tm_d {K : Nat → Int} {f : Nat} {a : Int} (h : K a.toNat = 11) (ht : ∀ x c, ¬ px_TY K f (a + 1 + 1 + 1) x c) : ∀ t c, ¬ px_TM K (f + 1) a t c := by
  rintro t c hh
  rcases px_TM_it.mp hh with ⟨q1, q2, q3, x', e', q4, q5, u', q6, _⟩ | ⟨q1, r, q2, _⟩
  · exact ht _ _ q4
  · omega
theorem px_tm_e {K : Nat → Int} {f : Nat} {a : Int} {x : qx_T} {e : Int} (h : K a.toNat = 11) (ht : px_TY K f (a + 1 + 1 + 1) x e) (h4 : K e.toNat ≠ 13) : ∀ t c, ¬ px_TM K (f + 1) a t c := by
  rintro t c hh
  rcases px_TM_it.mp hh with ⟨q1, q2, q3, x', e', q4, q5, u', q6, _⟩ | ⟨q1, r, q2, _⟩
  · obtain ⟨rfl, rfl⟩ := px_TY_fun ht q4
    exact h4 q5
  · omega
theorem px_tm_f {K : Nat → Int} {f : Nat} {a : Int} {x : qx_T} {e : Int} (h : K a.toNat = 11) (ht : px_TY K f (a + 1 + 1 + 1) x e) (hu : ∀ u c, ¬ px_TM K f (e + 1) u c) : ∀ t c, ¬ px_TM K (f + 1) a t c := by
  rintro t c hh
  rcases px_TM_it.mp hh with ⟨q1, q2, q3, x', e', q4, q5, u', q6, _⟩ | ⟨q1, r, q2, _⟩
  · obtain ⟨rfl, rfl⟩ := px_TY_fun ht q4
    exact hu _ _ q6
  · omega
theorem px_tm_g {K : Nat → Int} {f : Nat} {a : Int} (h : K a.toNat = 2) (hr : ∀ r c, ¬ px_AR K (px_TM K f) (a + 1) .leaf r c) : ∀ t c, ¬ px_TM K (f + 1) a t c := by
  rintro t c hh
  rcases px_TM_it.mp hh with ⟨q1, q2, q3, x', e', q4, q5, u', q6, _⟩ | ⟨q1, r, q2, _⟩
  · omega
  · exact hr _ _ q2

theorem w_dg_term {CALL : sx_Ca} {b : Nat → Int} {n : Int} {g : Nat} {sL : Nat} {sx : Nat → Int32} {Q : Nat → sx_L → sx_S → Prop} {R : Int → sx_S → Prop} (h_tk : ∀ (k : Int) (s : sx_S) (K : Int → sx_S → Prop), cx_I s → (2 ≤ k ∧ k ≤ 15) → (px_TK b n s) → (0 ≤ s.1 7 1) → (px_lv b n (s.1 7 1).toNat) → (px_K b n (s.1 7 1).toNat = k → K 1 (sx_uf s.1 7 1 (s.1 7 1 + 1), s.2)) → (px_K b n (s.1 7 1).toNat ≠ k → K 0 s) → CALL 37 [.inr (.inl 7), .inl k] s K) (h_ty : ∀ (a0 : Int) (s : sx_S) (K : Int → sx_S → Prop), cx_I s → a0 = 21 - (g : Int) → (px_TK b n s) → (0 ≤ s.1 7 1) → (px_lv b n (s.1 7 1).toNat) → (∀ x c, px_TY (px_K b n) g (s.1 7 1) x c → 0 ≤ c → px_lv b n c.toNat → K 1 (sx_uf s.1 7 1 c, s.2)) → ((∀ x c, ¬ px_TY (px_K b n) g (s.1 7 1) x c) → ∀ c, 0 ≤ c → px_lv b n c.toNat → K 0 (sx_uf s.1 7 1 c, s.2)) → CALL 39 [.inr (.inl 7), .inl a0] s K) (h_tm : ∀ (a0 : Int) (s : sx_S) (K : Int → sx_S → Prop), cx_I s → a0 = 21 - (g : Int) → (px_TK b n s) → (0 ≤ s.1 7 1) → (px_lv b n (s.1 7 1).toNat) → (∀ x c, px_TM (px_K b n) g (s.1 7 1) x c → 0 ≤ c → px_lv b n c.toNat → K 1 (sx_uf s.1 7 1 c, s.2)) → ((∀ x c, ¬ px_TM (px_K b n) g (s.1 7 1) x c) → ∀ c, 0 ≤ c → px_lv b n c.toNat → K 0 (sx_uf s.1 7 1 c, s.2)) → CALL 41 [.inr (.inl 7), .inl a0] s K) (h_ar : ∀ (a0 : Int) (s : sx_S) (K : Int → sx_S → Prop), cx_I s → a0 = 20 - (g : Int) → (px_TK b n s) → (0 ≤ s.1 7 1) → (px_lv b n (s.1 7 1).toNat) → (∀ x c, (fun (a : Int) (r : px_N) (c : Int) => px_AR (px_K b n) (px_TM (px_K b n) g) a .leaf r c) (s.1 7 1) x c → 0 ≤ c → px_lv b n c.toNat → K 1 (sx_uf s.1 7 1 c, s.2)) → ((∀ x c, ¬ (fun (a : Int) (r : px_N) (c : Int) => px_AR (px_K b n) (px_TM (px_K b n) g) a .leaf r c) (s.1 7 1) x c) → ∀ c, 0 ≤ c → px_lv b n c.toNat → K 0 (sx_uf s.1 7 1 c, s.2)) → CALL 42 [.inr (.inl 7), .inl a0] s K) {s : sx_S} {a0 : Int} (hI : cx_I s) (p0 : a0 = 20 - (g : Int)) (pg : g ≤ 20) (p1 : px_TK b n s) (p2 : 0 ≤ s.1 7 1) (p3 : px_lv b n (s.1 7 1).toNat) (hK1 : ∀ x c, px_TM (px_K b n) (g + 1) (s.1 7 1) x c → 0 ≤ c → px_lv b n c.toNat → R 1 (sx_uf s.1 7 1 c, s.2)) (hK0 : (∀ x c, ¬ px_TM (px_K b n) (g + 1) (s.1 7 1) x c) → ∀ c, 0 ≤ c → px_lv b n c.toNat → R 0 (sx_uf s.1 7 1 c, s.2)) : sx_wp true sL sx eX2_term CALL [] Q R 400 0 (sx_argsF 0 [.inr (.inl 7), .inl a0]) [] s := by
  have zzq : sx_w true (a0 + 1) = 21 - (g : Int) := by rw [px_wid (by omega) (by omega)]; omega
  repeat' (first | (with_reducible (rintro _ rfl)) | (with_reducible intro _) | (refine And.intro ?_ ?_) | (refine h_tk _ _ _ ?_ ?_ ?_ ?_ ?_ ?_ ?_) | (refine h_ty _ _ _ ?_ ?_ ?_ ?_ ?_ ?_ ?_) | (refine h_tm _ _ _ ?_ ?_ ?_ ?_ ?_ ?_ ?_) | (refine h_ar _ _ _ ?_ ?_ ?_ ?_ ?_ ?_ ?_))
  all_goals (try dsimp only at *)
  all_goals (try simp only [px_us, px_uu] at *)
  all_goals (first | trivial | assumption | omega | (exact px_cI hI p1 (by omega) (px_lv_up p3 p2 (by omega) rfl)) | (exact px_cI hI p1 (by omega) (px_lv_up (px_lv_up p3 p2 (by omega) rfl) (by omega) (by omega) rfl)) | (exact px_cI hI p1 (by omega) (px_lv_up (px_lv_up (px_lv_up p3 p2 (by omega) rfl) (by omega) (by omega) rfl) (by omega) (by omega) rfl)) | (exact px_cI hI p1 (by omega) (px_lv_up (by assumption) (by assumption) (by omega) rfl)) | (exact px_cI hI p1 (by assumption) (by assumption)) | (exact (px_lv_up p3 p2 (by omega) rfl)) | (exact (px_lv_up (px_lv_up p3 p2 (by omega) rfl) (by omega) (by omega) rfl)) | (exact (px_lv_up (px_lv_up (px_lv_up p3 p2 (by omega) rfl) (by omega) (by omega) rfl) (by omega) (by omega) rfl)) | (exact (px_lv_up (by assumption) (by assumption) (by omega) rfl)) | (exact hK0 (px_tm_a (by assumption) (by assumption)) _ (by first | exact p2 | assumption | omega) (by first | exact p3 | assumption | exact (px_lv_up p3 p2 (by omega) rfl) | exact (px_lv_up (px_lv_up p3 p2 (by omega) rfl) (by omega) (by omega) rfl) | exact (px_lv_up (px_lv_up (px_lv_up p3 p2 (by omega) rfl) (by omega) (by omega) rfl) (by omega) (by omega) rfl) | exact (px_lv_up (by assumption) (by assumption) (by omega) rfl))) | (exact hK0 (px_tm_b (by assumption) (by assumption)) _ (by first | exact p2 | assumption | omega) (by first | exact p3 | assumption | exact (px_lv_up p3 p2 (by omega) rfl) | exact (px_lv_up (px_lv_up p3 p2 (by omega) rfl) (by omega) (by omega) rfl) | exact (px_lv_up (px_lv_up (px_lv_up p3 p2 (by omega) rfl) (by omega) (by omega) rfl) (by omega) (by omega) rfl) | exact (px_lv_up (by assumption) (by assumption) (by omega) rfl))) | (exact hK0 (px_tm_c (by assumption) (by assumption)) _ (by first | exact p2 | assumption | omega) (by first | exact p3 | assumption | exact (px_lv_up p3 p2 (by omega) rfl) | exact (px_lv_up (px_lv_up p3 p2 (by omega) rfl) (by omega) (by omega) rfl) | exact (px_lv_up (px_lv_up (px_lv_up p3 p2 (by omega) rfl) (by omega) (by omega) rfl) (by omega) (by omega) rfl) | exact (px_lv_up (by assumption) (by assumption) (by omega) rfl))) | (exact hK0 (px_tm_d (by assumption) (by assumption)) _ (by first | exact p2 | assumption | omega) (by first | exact p3 | assumption | exact (px_lv_up p3 p2 (by omega) rfl) | exact (px_lv_up (px_lv_up p3 p2 (by omega) rfl) (by omega) (by omega) rfl) | exact (px_lv_up (px_lv_up (px_lv_up p3 p2 (by omega) rfl) (by omega) (by omega) rfl) (by omega) (by omega) rfl) | exact (px_lv_up (by assumption) (by assumption) (by omega) rfl))) | (exact hK0 (px_tm_e (by assumption) (by assumption) (by assumption)) _ (by first | exact p2 | assumption | omega) (by first | exact p3 | assumption | exact (px_lv_up p3 p2 (by omega) rfl) | exact (px_lv_up (px_lv_up p3 p2 (by omega) rfl) (by omega) (by omega) rfl) | exact (px_lv_up (px_lv_up (px_lv_up p3 p2 (by omega) rfl) (by omega) (by omega) rfl) (by omega) (by omega) rfl) | exact (px_lv_up (by assumption) (by assumption) (by omega) rfl))) | (exact hK0 (px_tm_f (by assumption) (by assumption) (by assumption)) _ (by first | exact p2 | assumption | omega) (by first | exact p3 | assumption | exact (px_lv_up p3 p2 (by omega) rfl) | exact (px_lv_up (px_lv_up p3 p2 (by omega) rfl) (by omega) (by omega) rfl) | exact (px_lv_up (px_lv_up (px_lv_up p3 p2 (by omega) rfl) (by omega) (by omega) rfl) (by omega) (by omega) rfl) | exact (px_lv_up (by assumption) (by assumption) (by omega) rfl))) | (exact hK0 (px_tm_g (by assumption) (by assumption)) _ (by first | exact p2 | assumption | omega) (by first | exact p3 | assumption | exact (px_lv_up p3 p2 (by omega) rfl) | exact (px_lv_up (px_lv_up p3 p2 (by omega) rfl) (by omega) (by omega) rfl) | exact (px_lv_up (px_lv_up (px_lv_up p3 p2 (by omega) rfl) (by omega) (by omega) rfl) (by omega) (by omega) rfl) | exact (px_lv_up (by assumption) (by assumption) (by omega) rfl))) | (exact hK1 _ _ (px_TM_it.mpr (Or.inl ⟨(by assumption), (by assumption), (by assumption), _, _, (by assumption), (by assumption), _, (by assumption), rfl⟩)) (by assumption) (by assumption)) | (exact hK1 _ _ (px_TM_it.mpr (Or.inr ⟨(by assumption), _, (by assumption), rfl⟩)) (by assumption) (by assumption)) | (have zz9 := hK0 (px_tm_a (by assumption) (by assumption)) (s.1 7 1) p2 p3; rw [px_ui rfl] at zz9; exact zz9) | skip)
