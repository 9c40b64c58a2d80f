/-! ===== the desk's grammar, exactly: items ===== -/
theorem px_IT_it {K : Nat → Int} {a c : Int} {q : (Int × Int × qx_T) × (px_N × px_N)} : px_IT K a q c ↔ ((K a.toNat = 3 ∨ K a.toNat = 4) ∧ K (a + 1).toNat = 2 ∧ K (a + 1 + 1).toNat = 12 ∧ ∃ x e, px_TY K 21 (a + 1 + 1 + 1) x e ∧ K e.toNat = 14 ∧ c = e + 1 ∧ q = ((K a.toNat, a + 1, x), .leaf, .leaf)) ∨ (K a.toNat = 5 ∧ ∃ t e u g, px_TM K 21 (a + 1) t e ∧ K e.toNat = 15 ∧ px_TM K 21 (e + 1) u g ∧ K g.toNat = 14 ∧ c = g + 1 ∧ q = ((5, a, qx_o), t, u)) := by
  have e3 : a + 1 + 1 + 1 = a + 3 := by omega
  have e2 : a + 1 + 1 = a + 2 := by omega
  rw [e3, e2]
  exact Iff.rfl
theorem px_it_a {K : Nat → Int} {a : Int} (h3 : K a.toNat ≠ 3) (h4 : K a.toNat ≠ 4) (h5 : K a.toNat ≠ 5) : ∀ q c, ¬ px_IT K a q c := by
  rintro q c hh
  rcases px_IT_it.mp hh with ⟨q1, q2, q3, x', e', q4, q5, _⟩ | ⟨q1, t', e', u', g', q2, q3, q4, q5, _⟩
  · omega
  · exact h5 q1
theorem px_it_b {K : Nat → Int} {a : Int} (h : K a.toNat = 3 ∨ K a.toNat = 4) (h2 : K (a + 1).toNat ≠ 2) : ∀ q c, ¬ px_IT K a q c := by
  rintro q c hh
  rcases px_IT_it.mp hh with ⟨q1, q2, q3, x', e', q4, q5, _⟩ | ⟨q1, t', e', u', g', q2, q3, q4, q5, _⟩
  · exact h2 q2
  · omega
theorem px_it_c {K : Nat → Int} {a : Int} (h : K a.toNat = 3 ∨ K a.toNat = 4) (h2 : K (a + 1 + 1).toNat ≠ 12) : ∀ q c, ¬ px_IT K a q c := by
  rintro q c hh
  rcases px_IT_it.mp hh with ⟨q1, q2, q3, x', e', q4, q5, _⟩ | ⟨q1, t', e', u', g', q2, q3, q4, q5, _⟩
  · exact h2 q3
  · omega
theorem px_it_d {K : Nat → Int} {a : Int} (h : K a.toNat = 3 ∨ K a.toNat = 4) (ht : ∀ x c, ¬ px_TY K 21 (a + 1 + 1 + 1) x c) : ∀ q c, ¬ px_IT K a q c := by
  rintro q c hh
  rcases px_IT_it.mp hh with ⟨q1, q2, q3, x', e', q4, q5, _⟩ | ⟨q1, t', e', u', g', q2, q3, q4, q5, _⟩
  · exact ht _ _ q4
  · omega
theorem px_it_e {K : Nat → Int} {a : Int} {x : qx_T} {e : Int} (h : K a.toNat = 3 ∨ K a.toNat = 4) (ht : px_TY K 21 (a + 1 + 1 + 1) x e) (h4 : K e.toNat ≠ 14) : ∀ q c, ¬ px_IT K a q c := by
  rintro q c hh
  rcases px_IT_it.mp hh with ⟨q1, q2, q3, x', e', q4, q5, _⟩ | ⟨q1, t', e', u', g', q2, q3, q4, q5, _⟩
  · obtain ⟨rfl, rfl⟩ := px_TY_fun ht q4
    exact h4 q5
  · omega
theorem px_it_f {K : Nat → Int} {a : Int} (h : K a.toNat = 5) (ht : ∀ t c, ¬ px_TM K 21 (a + 1) t c) : ∀ q c, ¬ px_IT K a q c := by
  rintro q c hh
  rcases px_IT_it.mp hh with ⟨q1, q2, q3, x', e', q4, q5, _⟩ | ⟨q1, t', e', u', g', q2, q3, q4, q5, _⟩
  · omega
  · exact ht _ _ q2
theorem px_it_g {K : Nat → Int} {a : Int} {t : px_N} {e : Int} (h : K a.toNat = 5) (ht : px_TM K 21 (a + 1) t e) (h4 : K e.toNat ≠ 15) : ∀ q c, ¬ px_IT K a q c := by
  rintro q c hh
  rcases px_IT_it.mp hh with ⟨q1, q2, q3, x', e', q4, q5, _⟩ | ⟨q1, t', e', u', g', q2, q3, q4, q5, _⟩
  · omega
  · obtain ⟨rfl, rfl⟩ := px_TM_fun ht q2
    exact h4 q3
theorem px_it_h {K : Nat → Int} {a : Int} {t : px_N} {e : Int} (h : K a.toNat = 5) (ht : px_TM K 21 (a + 1) t e) (hu : ∀ u g, ¬ px_TM K 21 (e + 1) u g) : ∀ q c, ¬ px_IT K a q c := by
  rintro q c hh
  rcases px_IT_it.mp hh with ⟨q1, q2, q3, x', e', q4, q5, _⟩ | ⟨q1, t', e', u', g', q2, q3, q4, q5, _⟩
  · omega
  · obtain ⟨rfl, rfl⟩ := px_TM_fun ht q2
    exact hu _ _ q4
theorem px_it_i {K : Nat → Int} {a : Int} {t u : px_N} {e g : Int} (h : K a.toNat = 5) (ht : px_TM K 21 (a + 1) t e) (hu : px_TM K 21 (e + 1) u g) (h4 : K g.toNat ≠ 14) : ∀ q c, ¬ px_IT K a q c := by
  rintro q c hh
  rcases px_IT_it.mp hh with ⟨q1, q2, q3, x', e', q4, q5, _⟩ | ⟨q1, t', e', u', g', q2, q3, q4, q5, _⟩
  · omega
  · obtain ⟨rfl, rfl⟩ := px_TM_fun ht q2
    obtain ⟨rfl, rfl⟩ := px_TM_fun hu q4
    exact h4 q5

set_option maxHeartbeats 4000000 in
theorem w_dg_item {CALL : sx_Ca} {b : Nat → Int} {n : Int} {sL : Nat} {sx : Nat → Int32} {Q : Nat → sx_L → sx_S → Prop} {R : Int → sx_S → Prop} (h_tk : ∀ (k : Int) (s : sx_S) (K : Int → sx_S → Prop), cx_I s → (2 ≤ k ∧ k ≤ 15) → (px_TK b n s) → (0 ≤ s.1 7 1) → (px_lv b n (s.1 7 1).toNat) → (px_K b n (s.1 7 1).toNat = k → K 1 (sx_uf s.1 7 1 (s.1 7 1 + 1), s.2)) → (px_K b n (s.1 7 1).toNat ≠ k → K 0 s) → CALL 37 [.inr (.inl 7), .inl k] s K) (h_ty : ∀ (a0 : Int) (s : sx_S) (K : Int → sx_S → Prop), cx_I s → a0 = 21 - ((21 : Nat) : Int) → (px_TK b n s) → (0 ≤ s.1 7 1) → (px_lv b n (s.1 7 1).toNat) → (∀ x c, px_TY (px_K b n) 21 (s.1 7 1) x c → 0 ≤ c → px_lv b n c.toNat → K 1 (sx_uf s.1 7 1 c, s.2)) → ((∀ x c, ¬ px_TY (px_K b n) 21 (s.1 7 1) x c) → ∀ c, 0 ≤ c → px_lv b n c.toNat → K 0 (sx_uf s.1 7 1 c, s.2)) → CALL 39 [.inr (.inl 7), .inl a0] s K) (h_tm : ∀ (a0 : Int) (s : sx_S) (K : Int → sx_S → Prop), cx_I s → a0 = 21 - ((21 : Nat) : Int) → (px_TK b n s) → (0 ≤ s.1 7 1) → (px_lv b n (s.1 7 1).toNat) → (∀ x c, px_TM (px_K b n) 21 (s.1 7 1) x c → 0 ≤ c → px_lv b n c.toNat → K 1 (sx_uf s.1 7 1 c, s.2)) → ((∀ x c, ¬ px_TM (px_K b n) 21 (s.1 7 1) x c) → ∀ c, 0 ≤ c → px_lv b n c.toNat → K 0 (sx_uf s.1 7 1 c, s.2)) → CALL 41 [.inr (.inl 7), .inl a0] s K) {s : sx_S} (hI : cx_I s) (p1 : px_TK b n s) (p2 : 0 ≤ s.1 7 1) (p3 : px_lv b n (s.1 7 1).toNat) (hK1 : ∀ x c, px_IT (px_K b n) (s.1 7 1) x c → 0 ≤ c → px_lv b n c.toNat → R 1 (sx_uf s.1 7 1 c, s.2)) (hK0 : (∀ x c, ¬ px_IT (px_K b n) (s.1 7 1) x c) → ∀ c, 0 ≤ c → px_lv b n c.toNat → R 0 (sx_uf s.1 7 1 c, s.2)) : sx_wp true sL sx eX2_item CALL [] Q R 400 0 (sx_argsF 0 [.inr (.inl 7)]) [] s := by
  repeat' (first | (with_reducible (rintro _ rfl)) | (with_reducible intro _) | (refine And.intro ?_ ?_) | (refine h_tk _ _ _ ?_ ?_ ?_ ?_ ?_ ?_ ?_) | (refine h_ty _ _ _ ?_ ?_ ?_ ?_ ?_ ?_ ?_) | (refine h_tm _ _ _ ?_ ?_ ?_ ?_ ?_ ?_ ?_))
  all_goals (try dsimp only at *)
  all_goals (try simp only [px_us, px_uu] at *)
  all_goals (first | trivial | assumption | omega | (exact px_cI hI p1 (by omega) (px_lv_up p3 p2 (by omega) rfl)) | (exact px_cI hI p1 (by omega) (px_lv_up (px_lv_up p3 p2 (by omega) rfl) (by omega) (by omega) rfl)) | (exact px_cI hI p1 (by omega) (px_lv_up (px_lv_up (px_lv_up p3 p2 (by omega) rfl) (by omega) (by omega) rfl) (by omega) (by omega) rfl)) | (exact px_cI hI p1 (by omega) (px_lv_up (by assumption) (by assumption) (by omega) rfl)) | (exact px_cI hI p1 (by assumption) (by assumption)) | (exact (px_lv_up p3 p2 (by omega) rfl)) | (exact (px_lv_up (px_lv_up p3 p2 (by omega) rfl) (by omega) (by omega) rfl)) | (exact (px_lv_up (px_lv_up (px_lv_up p3 p2 (by omega) rfl) (by omega) (by omega) rfl) (by omega) (by omega) rfl)) | (exact (px_lv_up (by assumption) (by assumption) (by omega) rfl)) | (exact hK0 (px_it_b (by omega) (by assumption)) _ (by first | exact p2 | assumption | omega) (by first | exact p3 | assumption | exact (px_lv_up p3 p2 (by omega) rfl) | exact (px_lv_up (px_lv_up p3 p2 (by omega) rfl) (by omega) (by omega) rfl) | exact (px_lv_up (px_lv_up (px_lv_up p3 p2 (by omega) rfl) (by omega) (by omega) rfl) (by omega) (by omega) rfl) | exact (px_lv_up (by assumption) (by assumption) (by omega) rfl))) | (exact hK0 (px_it_c (by omega) (by assumption)) _ (by first | exact p2 | assumption | omega) (by first | exact p3 | assumption | exact (px_lv_up p3 p2 (by omega) rfl) | exact (px_lv_up (px_lv_up p3 p2 (by omega) rfl) (by omega) (by omega) rfl) | exact (px_lv_up (px_lv_up (px_lv_up p3 p2 (by omega) rfl) (by omega) (by omega) rfl) (by omega) (by omega) rfl) | exact (px_lv_up (by assumption) (by assumption) (by omega) rfl))) | (exact hK0 (px_it_d (by omega) (by assumption)) _ (by first | exact p2 | assumption | omega) (by first | exact p3 | assumption | exact (px_lv_up p3 p2 (by omega) rfl) | exact (px_lv_up (px_lv_up p3 p2 (by omega) rfl) (by omega) (by omega) rfl) | exact (px_lv_up (px_lv_up (px_lv_up p3 p2 (by omega) rfl) (by omega) (by omega) rfl) (by omega) (by omega) rfl) | exact (px_lv_up (by assumption) (by assumption) (by omega) rfl))) | (exact hK0 (px_it_e (by omega) (by assumption) (by assumption)) _ (by first | exact p2 | assumption | omega) (by first | exact p3 | assumption | exact (px_lv_up p3 p2 (by omega) rfl) | exact (px_lv_up (px_lv_up p3 p2 (by omega) rfl) (by omega) (by omega) rfl) | exact (px_lv_up (px_lv_up (px_lv_up p3 p2 (by omega) rfl) (by omega) (by omega) rfl) (by omega) (by omega) rfl) | exact (px_lv_up (by assumption) (by assumption) (by omega) rfl))) | (exact hK0 (px_it_f (by assumption) (by assumption)) _ (by first | exact p2 | assumption | omega) (by first | exact p3 | assumption | exact (px_lv_up p3 p2 (by omega) rfl) | exact (px_lv_up (px_lv_up p3 p2 (by omega) rfl) (by omega) (by omega) rfl) | exact (px_lv_up (px_lv_up (px_lv_up p3 p2 (by omega) rfl) (by omega) (by omega) rfl) (by omega) (by omega) rfl) | exact (px_lv_up (by assumption) (by assumption) (by omega) rfl))) | (exact hK0 (px_it_g (by assumption) (by assumption) (by assumption)) _ (by first | exact p2 | assumption | omega) (by first | exact p3 | assumption | exact (px_lv_up p3 p2 (by omega) rfl) | exact (px_lv_up (px_lv_up p3 p2 (by omega) rfl) (by omega) (by omega) rfl) | exact (px_lv_up (px_lv_up (px_lv_up p3 p2 (by omega) rfl) (by omega) (by omega) rfl) (by omega) (by omega) rfl) | exact (px_lv_up (by assumption) (by assumption) (by omega) rfl))) | (exact hK0 (px_it_h (by assumption) (by assumption) (by assumption)) _ (by first | exact p2 | assumption | omega) (by first | exact p3 | assumption | exact (px_lv_up p3 p2 (by omega) rfl) | exact (px_lv_up (px_lv_up p3 p2 (by omega) rfl) (by omega) (by omega) rfl) | exact (px_lv_up (px_lv_up (px_lv_up p3 p2 (by omega) rfl) (by omega) (by omega) rfl) (by omega) (by omega) rfl) | exact (px_lv_up (by assumption) (by assumption) (by omega) rfl))) | (exact hK0 (px_it_i (by assumption) (by assumption) (by assumption) (by assumption)) _ (by first | exact p2 | assumption | omega) (by first | exact p3 | assumption | exact (px_lv_up p3 p2 (by omega) rfl) | exact (px_lv_up (px_lv_up p3 p2 (by omega) rfl) (by omega) (by omega) rfl) | exact (px_lv_up (px_lv_up (px_lv_up p3 p2 (by omega) rfl) (by omega) (by omega) rfl) (by omega) (by omega) rfl) | exact (px_lv_up (by assumption) (by assumption) (by omega) rfl))) | (exact hK1 _ _ (px_IT_it.mpr (Or.inl ⟨(by omega), (by assumption), (by assumption), _, _, (by assumption), (by assumption), rfl, rfl⟩)) (by omega) (px_lv_up (by assumption) (by assumption) (by omega) rfl)) | (exact hK1 _ _ (px_IT_it.mpr (Or.inr ⟨(by assumption), _, _, _, _, (by assumption), (by assumption), (by assumption), (by assumption), rfl, rfl⟩)) (by omega) (px_lv_up (by assumption) (by assumption) (by omega) rfl)) | (have zz9 := hK0 (px_it_a (by assumption) (by assumption) (by assumption)) (s.1 7 1) p2 p3; rw [px_ui rfl] at zz9; exact zz9) | skip)
