section
/-! ===== the desk's grammar, exactly: arguments ===== -/
/-- within the loop over ARGs: what was taken, what is left -/
def px_AJ (K : Nat → Int) (T : Int → px_N → Int → Prop) (a c x2 x3 x4 : Int) : Prop := (x2 = 1 ∧ x3 = 1 ∧ x4 ≤ c ∧ ∃ r, ∀ r' c', px_AR K T a .leaf r' c' ↔ px_AR K T c r r' c') ∨ (x2 = 1 ∧ x3 = 0 ∧ ∃ r, px_AR K T a .leaf r c) ∨ (x2 = 0 ∧ x3 = 1 ∧ ∀ r c', ¬ px_AR K T a .leaf r c')
theorem px_aj_0 {K : Nat → Int} {T : Int → px_N → Int → Prop} {a : Int} (h : 0 ≤ a) : px_AJ K T a a 1 1 0 := Or.inl ⟨rfl, rfl, h, .leaf, fun _ _ => Iff.rfl⟩
theorem px_aj_s {K : Nat → Int} {T : Int → px_N → Int → Prop} {a c : Int} {w : Int} {r : px_N} (h : ∀ r' c', px_AR K T a .leaf r' c' ↔ px_AR K T c r r' c') (h9 : K c.toNat ≠ 9) (h2 : K c.toNat ≠ 2) : px_AJ K T a c 1 0 w := Or.inr (Or.inl ⟨rfl, rfl, r, (h _ _).mpr (px_AR_it.mpr (Or.inr (Or.inr ⟨h9, h2, rfl, rfl⟩)))⟩)
theorem px_aj_e {K : Nat → Int} {T : Int → px_N → Int → Prop} {a c : Int} {r : px_N} (h : ∀ r' c', px_AR K T a .leaf r' c' ↔ px_AR K T c r r' c') (h9 : K c.toNat ≠ 9) (h2 : K c.toNat ≠ 2) : px_AR K T a .leaf r c := (h _ _).mpr (px_AR_it.mpr (Or.inr (Or.inr ⟨h9, h2, rfl, rfl⟩)))
theorem px_aj_n {K : Nat → Int} {T : Int → px_N → Int → Prop} {a c x4 : Int} {r : px_N} (h : ∀ r' c', px_AR K T a .leaf r' c' ↔ px_AR K T c r r' c') (h2 : K c.toNat = 2) (h4 : x4 ≤ c) : px_AJ K T a (c + 1) 1 1 (x4 + 1) := by
  refine Or.inl ⟨rfl, rfl, by omega, px_snoc r (px_app c .leaf .leaf), fun r' c' => (h r' c').trans ?_⟩
  rw [px_AR_it]
  constructor
  · rintro (⟨q, _⟩ | ⟨_, q⟩ | ⟨_, q, _⟩)
    · omega
    · exact q
    · exact absurd h2 q
  · exact fun q => Or.inr (Or.inl ⟨h2, q⟩)
theorem px_aj_b {K : Nat → Int} {T : Int → px_N → Int → Prop} {a c x4 : Int} {e : Int} {r t : px_N} (hT : ∀ a t e t' e', T a t e → T a t' e' → t = t' ∧ e = e') (h : ∀ r' c', px_AR K T a .leaf r' c' ↔ px_AR K T c r r' c') (h9 : K c.toNat = 9) (ht : T (c + 1) t e) (h10 : K e.toNat = 10) (h4 : x4 ≤ e) : px_AJ K T a (e + 1) 1 1 (x4 + 1) := by
  refine Or.inl ⟨rfl, rfl, by omega, px_snoc r t, fun r' c' => (h r' c').trans ?_⟩
  rw [px_AR_it]
  constructor
  · rintro (⟨_, t', e', q1, q2, q3⟩ | ⟨q, _⟩ | ⟨q, _⟩)
    · obtain ⟨rfl, rfl⟩ := hT _ _ _ _ _ ht q1
      exact q3
    · omega
    · exact absurd h9 q
  · exact fun q => Or.inl ⟨h9, t, e, ht, h10, q⟩
theorem px_aj_x {K : Nat → Int} {T : Int → px_N → Int → Prop} {a c : Int} {w c1 : Int} {r : px_N} (h : ∀ r' c', px_AR K T a .leaf r' c' ↔ px_AR K T c r r' c') (h9 : K c.toNat = 9) (ht : ∀ t e, ¬ T (c + 1) t e) : px_AJ K T a c1 0 1 w := by
  refine Or.inr (Or.inr ⟨rfl, rfl, fun r' c' hh => ?_⟩)
  rw [h, px_AR_it] at hh
  rcases hh with ⟨_, t', e', q1, q2, q3⟩ | ⟨q, _⟩ | ⟨q, _⟩
  · exact ht _ _ q1
  · omega
  · exact q h9
theorem px_aj_y {K : Nat → Int} {T : Int → px_N → Int → Prop} {a c : Int} {w c1 e : Int} {r t : px_N} (hT : ∀ a t e t' e', T a t e → T a t' e' → t = t' ∧ e = e') (h : ∀ r' c', px_AR K T a .leaf r' c' ↔ px_AR K T c r r' c') (h9 : K c.toNat = 9) (ht : T (c + 1) t e) (h10 : K e.toNat ≠ 10) : px_AJ K T a c1 0 1 w := by
  refine Or.inr (Or.inr ⟨rfl, rfl, fun r' c' hh => ?_⟩)
  rw [h, px_AR_it] at hh
  rcases hh with ⟨_, t', e', q1, q2, q3⟩ | ⟨q, _⟩ | ⟨q, _⟩
  · obtain ⟨rfl, rfl⟩ := hT _ _ _ _ _ ht q1
    exact h10 q2
  · omega
  · exact q h9
/-- a TERM, a TYPE, ends behind where it begins -/
theorem px_TY_le {K : Nat → Int} : ∀ {f : Nat} {a : Int} {x : qx_T} {c : Int}, px_TY K f a x c → a < c
  | 0, _, _, _, h => h.elim
  | f + 1, a, x, c, h => by
    obtain ⟨y, e, h1, h2⟩ := h
    have he : a < e := by
      rcases h1 with ⟨_, _, q⟩ | ⟨_, _, q⟩ | ⟨_, g, q1, _, q⟩
      · omega
      · omega
      · have := px_TY_le q1
        omega
    rcases h2 with ⟨_, w, q, _⟩ | ⟨_, _, q⟩
    · have := px_TY_le q
      omega
    · omega
theorem px_ARg_le {K : Nat → Int} {T : Int → px_N → Int → Prop} (hT : ∀ a t e, T a t e → a < e) : ∀ {g : Nat} {a : Int} {r r' : px_N} {c : Int}, px_ARg K T g a r r' c → a ≤ c
  | 0, _, _, _, _, h => h.elim
  | g + 1, a, r, r', c, h => by
    rcases h with ⟨_, t, e, q1, _, q2⟩ | ⟨_, q⟩ | ⟨_, _, _, q⟩
    · have := hT _ _ _ q1
      have := px_ARg_le hT q2
      omega
    · have := px_ARg_le hT q
      omega
    · omega
theorem px_TM_le {K : Nat → Int} : ∀ {f : Nat} {a : Int} {x : px_N} {c : Int}, px_TM K f a x c → a < c
  | 0, _, _, _, h => h.elim
  | f + 1, a, x, c, h => by
    rcases h with ⟨_, _, _, y, e, q1, _, u, q2, _⟩ | ⟨_, r, ⟨g, q⟩, _⟩
    · have := px_TY_le q1
      have := px_TM_le q2
      omega
    · have := px_ARg_le (T := px_TM K f) (fun _ _ _ h => px_TM_le h) q
      omega

theorem w_dg_args {CALL : sx_Ca} {b : Nat → Int} {n : Int} {g : Nat} {sL : Nat} {sx : Nat → Int32} {Q : Nat → sx_L → sx_S → Prop} {R : Int → sx_S → Prop} (h_tk : ∀ (k : Int) (s : sx_S) (K : Int → sx_S → Prop), cx_I s → (2 ≤ k ∧ k ≤ 15) → (px_TK b n s) → (0 ≤ s.1 7 1) → (px_lv b n (s.1 7 1).toNat) → (px_K b n (s.1 7 1).toNat = k → K 1 (sx_uf s.1 7 1 (s.1 7 1 + 1), s.2)) → (px_K b n (s.1 7 1).toNat ≠ k → K 0 s) → CALL 37 [.inr (.inl 7), .inl k] s K) (h_tm : ∀ (a0 : Int) (s : sx_S) (K : Int → sx_S → Prop), cx_I s → a0 = 21 - (g : Int) → (px_TK b n s) → (0 ≤ s.1 7 1) → (px_lv b n (s.1 7 1).toNat) → (∀ x c, px_TM (px_K b n) g (s.1 7 1) x c → 0 ≤ c → px_lv b n c.toNat → K 1 (sx_uf s.1 7 1 c, s.2)) → ((∀ x c, ¬ px_TM (px_K b n) g (s.1 7 1) x c) → ∀ c, 0 ≤ c → px_lv b n c.toNat → K 0 (sx_uf s.1 7 1 c, s.2)) → CALL 41 [.inr (.inl 7), .inl a0] s K) {s : sx_S} {a0 : Int} (hI : cx_I s) (p0 : a0 = 20 - (g : Int)) (pg : g ≤ 20) (p1 : px_TK b n s) (p2 : 0 ≤ s.1 7 1) (p3 : px_lv b n (s.1 7 1).toNat) (hK1 : ∀ x c, (fun (a : Int) (r : px_N) (c : Int) => px_AR (px_K b n) (px_TM (px_K b n) g) a .leaf r c) (s.1 7 1) x c → 0 ≤ c → px_lv b n c.toNat → R 1 (sx_uf s.1 7 1 c, s.2)) (hK0 : (∀ x c, ¬ (fun (a : Int) (r : px_N) (c : Int) => px_AR (px_K b n) (px_TM (px_K b n) g) a .leaf r c) (s.1 7 1) x c) → ∀ c, 0 ≤ c → px_lv b n c.toNat → R 0 (sx_uf s.1 7 1 c, s.2)) (hQ7 : ∀ x2 x3 y4 c', 0 ≤ c' → px_lv b n c'.toNat → (0 ≤ y4 ∧ y4 ≤ 240) → px_AJ (px_K b n) (px_TM (px_K b n) g) (s.1 7 1) c' x2 x3 y4 → Q 7 [(0, .inr (.inl 7)), (1, .inl a0), (2, .inl x2), (3, .inl x3), (4, .inl y4)] (sx_uf s.1 7 1 c', s.2)) : sx_wp true sL sx eX2_arguments CALL [(7, [0, 1, 2, 3, 4])] Q R 400 0 (sx_argsF 0 [.inr (.inl 7), .inl a0]) [] s := by
  have zz9 := hQ7 1 1 0 (s.1 7 1) p2 p3 (by omega) (px_aj_0 p2)
  rw [px_ui rfl] at zz9
  exact zz9
theorem w_dg_args_7 {CALL : sx_Ca} {b : Nat → Int} {n : Int} {g : Nat} {sL : Nat} {sx : Nat → Int32} {Q : Nat → sx_L → sx_S → Prop} {R : Int → sx_S → Prop} (h_tk : ∀ (k : Int) (s : sx_S) (K : Int → sx_S → Prop), cx_I s → (2 ≤ k ∧ k ≤ 15) → (px_TK b n s) → (0 ≤ s.1 7 1) → (px_lv b n (s.1 7 1).toNat) → (px_K b n (s.1 7 1).toNat = k → K 1 (sx_uf s.1 7 1 (s.1 7 1 + 1), s.2)) → (px_K b n (s.1 7 1).toNat ≠ k → K 0 s) → CALL 37 [.inr (.inl 7), .inl k] s K) (h_tm : ∀ (a0 : Int) (s : sx_S) (K : Int → sx_S → Prop), cx_I s → a0 = 21 - (g : Int) → (px_TK b n s) → (0 ≤ s.1 7 1) → (px_lv b n (s.1 7 1).toNat) → (∀ x c, px_TM (px_K b n) g (s.1 7 1) x c → 0 ≤ c → px_lv b n c.toNat → K 1 (sx_uf s.1 7 1 c, s.2)) → ((∀ x c, ¬ px_TM (px_K b n) g (s.1 7 1) x c) → ∀ c, 0 ≤ c → px_lv b n c.toNat → K 0 (sx_uf s.1 7 1 c, s.2)) → CALL 41 [.inr (.inl 7), .inl a0] s K) {s : sx_S} {a0 : Int} (hI : cx_I s) (p0 : a0 = 20 - (g : Int)) (pg : g ≤ 20) (p1 : px_TK b n s) (p2 : 0 ≤ s.1 7 1) (p3 : px_lv b n (s.1 7 1).toNat) (hK1 : ∀ x c, (fun (a : Int) (r : px_N) (c : Int) => px_AR (px_K b n) (px_TM (px_K b n) g) a .leaf r c) (s.1 7 1) x c → 0 ≤ c → px_lv b n c.toNat → R 1 (sx_uf s.1 7 1 c, s.2)) (hK0 : (∀ x c, ¬ (fun (a : Int) (r : px_N) (c : Int) => px_AR (px_K b n) (px_TM (px_K b n) g) a .leaf r c) (s.1 7 1) x c) → ∀ c, 0 ≤ c → px_lv b n c.toNat → R 0 (sx_uf s.1 7 1 c, s.2)) {x2 x3 x4 c : Int} (q0 : 0 ≤ c) (q1 : px_lv b n c.toNat) (q2 : 0 ≤ x4 ∧ x4 ≤ 240) (q3 : px_AJ (px_K b n) (px_TM (px_K b n) g) (s.1 7 1) c x2 x3 x4) (hQ7 : ∀ x2 x3 y4 c', 0 ≤ c' → px_lv b n c'.toNat → (0 ≤ y4 ∧ y4 ≤ 240) → px_AJ (px_K b n) (px_TM (px_K b n) g) (s.1 7 1) c' x2 x3 y4 → x4 < y4 → Q 7 [(0, .inr (.inl 7)), (1, .inl a0), (2, .inl x2), (3, .inl x3), (4, .inl y4)] (sx_uf s.1 7 1 c', s.2)) : sx_wp true sL sx eX2_arguments CALL [(7, [0, 1, 2, 3, 4])] Q R 400 7 [(0, .inr (.inl 7)), (1, .inl a0), (2, .inl x2), (3, .inl x3), (4, .inl x4)] [] (sx_uf s.1 7 1 c, s.2) := by
  have zzq : sx_w true (a0 + 1) = 21 - (g : Int) := by rw [px_wid (by omega) (by omega)]; omega
  have zzw : sx_w true (x4 + 1) = x4 + 1 := px_wid (by omega) (by omega)
  have zzk := px_TK_kd p1 q0 q1
  have zzt := (p1 trivial).1
  have zzf : ∀ a t e t' e', px_TM (px_K b n) g a t e → px_TM (px_K b n) g a t' e' → t = t' ∧ e = e' := fun _ _ _ _ _ h1 h2 => px_TM_fun h1 h2
  rcases q3 with ⟨rfl, rfl, q4, r, q5⟩ | ⟨rfl, rfl, r, q4⟩ | ⟨rfl, rfl, q4⟩
  ·
    repeat' (first | (with_reducible (rintro _ rfl)) | (with_reducible intro _) | (refine And.intro ?_ ?_) | (refine h_tk _ _ _ ?_ ?_ ?_ ?_ ?_ ?_ ?_) | (refine h_tm _ _ _ ?_ ?_ ?_ ?_ ?_ ?_ ?_))
    all_goals (try dsimp only at *)
    all_goals (try simp only [px_us, px_uu] at *)
    all_goals (first | trivial | assumption | omega | (exfalso; omega) | (exact px_cI hI p1 q0 q1) | (exact px_cI hI p1 (by omega) (px_lv_up q1 q0 (by omega) rfl)) | (exact px_cI hI p1 (by omega) (px_lv_up (by assumption) (by assumption) (by omega) rfl)) | (exact px_cI hI p1 (by assumption) (by assumption)) | (exact (px_lv_up q1 q0 (by omega) rfl)) | (exact (px_lv_up (by assumption) (by assumption) (by omega) rfl)) | (exact hQ7 _ _ _ _ q0 q1 (by rw [zzw]; omega) (by rw [zzw]; exact px_aj_s q5 (by assumption) (by assumption)) (by rw [zzw]; omega)) | (exact hQ7 _ _ _ _ (by omega) (px_lv_up q1 q0 (by omega) rfl) (by rw [zzw]; omega) (by rw [zzw]; exact px_aj_n q5 (by assumption) q4) (by rw [zzw]; omega)) | (exact hQ7 _ _ _ _ (by omega) (px_lv_up (by assumption) (by assumption) (by omega) rfl) (by rw [zzw]; omega) (by rw [zzw]; exact px_aj_b zzf q5 (by assumption) (by assumption) (by assumption) (by have zz8 := px_TM_le (by assumption : px_TM (px_K b n) g _ _ _); omega)) (by rw [zzw]; omega)) | (exact hQ7 _ _ _ _ (by assumption) (by assumption) (by rw [zzw]; omega) (by rw [zzw]; exact px_aj_x q5 (by assumption) (by assumption)) (by rw [zzw]; omega)) | (exact hQ7 _ _ _ _ (by assumption) (by assumption) (by rw [zzw]; omega) (by rw [zzw]; exact px_aj_y zzf q5 (by assumption) (by assumption) (by assumption)) (by rw [zzw]; omega)) | (exact hK1 _ _ (px_aj_e q5 (by omega) (by omega)) q0 q1) | skip)
  · have zz9 := hK1 _ _ q4 q0 q1
    repeat' (first | (with_reducible intro _) | (refine And.intro ?_ ?_))
    all_goals (first | exact zz9 | omega | (exfalso; omega))
  · have zz9 := hK0 q4 c q0 q1
    repeat' (first | (with_reducible intro _) | (refine And.intro ?_ ?_))
    all_goals (first | exact zz9 | omega | (exfalso; omega))
end
section
/-! ===== the desk's grammar, exactly: terms by depth, items, the text ===== -/
theorem st_dg_args {sL : Nat} {sx : Nat → Int32} (hsL : sL ≤ 3072) {b : Nat → Int} {n : Int} {g d : Nat} (h_tk : ∀ (k : Int) (s : sx_S) (K : Int → sx_S → Prop), cx_I s → (2 ≤ k ∧ k ≤ 15) → (px_TK b n s) → (0 ≤ s.1 7 1) → (px_lv b n (s.1 7 1).toNat) → (px_K b n (s.1 7 1).toNat = k → K 1 (sx_uf s.1 7 1 (s.1 7 1 + 1), s.2)) → (px_K b n (s.1 7 1).toNat ≠ k → K 0 s) → sx_C sL sx (d + 1) 37 [.inr (.inl 7), .inl k] s K) (h_tm : ∀ (a0 : Int) (s : sx_S) (K : Int → sx_S → Prop), cx_I s → a0 = 21 - (g : Int) → (px_TK b n s) → (0 ≤ s.1 7 1) → (px_lv b n (s.1 7 1).toNat) → (∀ x c, px_TM (px_K b n) g (s.1 7 1) x c → 0 ≤ c → px_lv b n c.toNat → K 1 (sx_uf s.1 7 1 c, s.2)) → ((∀ x c, ¬ px_TM (px_K b n) g (s.1 7 1) x c) → ∀ c, 0 ≤ c → px_lv b n c.toNat → K 0 (sx_uf s.1 7 1 c, s.2)) → sx_C sL sx (d + 1) 41 [.inr (.inl 7), .inl a0] s K) (pg : g ≤ 20) : ∀ (a0 : Int) (s : sx_S) (K : Int → sx_S → Prop), cx_I s → a0 = 20 - (g : Int) → (px_TK b n s) → (0 ≤ s.1 7 1) → (px_lv b n (s.1 7 1).toNat) → (∀ x c, (fun (a : Int) (r : px_N) (c : Int) => px_AR (px_K b n) (px_TM (px_K b n) g) a .leaf r c) (s.1 7 1) x c → 0 ≤ c → px_lv b n c.toNat → K 1 (sx_uf s.1 7 1 c, s.2)) → ((∀ x c, ¬ (fun (a : Int) (r : px_N) (c : Int) => px_AR (px_K b n) (px_TM (px_K b n) g) a .leaf r c) (s.1 7 1) x c) → ∀ c, 0 ≤ c → px_lv b n c.toNat → K 0 (sx_uf s.1 7 1 c, s.2)) → sx_C sL sx (d + 2) 42 [.inr (.inl 7), .inl a0] s K := by
  intro a0 s K hI p0 p1 p2 p3 hK1 hK0
  refine sx_methL (wr := true) (n := 400) (n' := 400) (stop := [(7, [0, 1, 2, 3, 4])]) (fun nn pc ls u => pc = 7 ∧ ∃ x2 x3 x4 c : Int, ls = [(0, .inr (.inl 7)), (1, .inl a0), (2, .inl x2), (3, .inl x3), (4, .inl x4)] ∧ u = (sx_uf s.1 7 1 c, s.2) ∧ 0 ≤ c ∧ px_lv b n c.toNat ∧ (0 ≤ x4 ∧ x4 ≤ 240) ∧ px_AJ (px_K b n) (px_TM (px_K b n) g) (s.1 7 1) c x2 x3 x4 ∧ nn = (240 - x4).toNat) hsL (e := eX2_arguments) rfl ?_ ?_
  · exact w_dg_args h_tk h_tm hI p0 pg p1 p2 p3 hK1 hK0 (fun x2 x3 x4 c q0 q1 q2 q3 => ⟨_, rfl, x2, x3, x4, c, rfl, rfl, q0, q1, q2, q3, rfl⟩)
  · rintro nn pc ls u ⟨rfl, x2, x3, x4, c, rfl, rfl, q0, q1, q2, q3, rfl⟩
    exact w_dg_args_7 h_tk h_tm hI p0 pg p1 p2 p3 hK1 hK0 q0 q1 q2 q3 (fun y2 y3 y4 c' r0 r1 r2 r3 hm => ⟨_, by omega, rfl, y2, y3, y4, c', rfl, rfl, r0, r1, r2, r3, rfl⟩)
theorem w_dg_term0 {CALL : sx_Ca} {b : Nat → Int} {n : Int} {g : Nat} {sL : Nat} {sx : Nat → Int32} {Q : Nat → sx_L → sx_S → Prop} {R : Int → sx_S → Prop} {s : sx_S} {a0 : Int} (hI : cx_I s) (p0 : a0 = 21) (p1 : px_TK b n s) (p2 : 0 ≤ s.1 7 1) (p3 : px_lv b n (s.1 7 1).toNat) (hK1 : ∀ x c, px_TM (px_K b n) 0 (s.1 7 1) x c → 0 ≤ c → px_lv b n c.toNat → R 1 (sx_uf s.1 7 1 c, s.2)) (hK0 : (∀ x c, ¬ px_TM (px_K b n) 0 (s.1 7 1) x c) → ∀ c, 0 ≤ c → px_lv b n c.toNat → R 0 (sx_uf s.1 7 1 c, s.2)) : sx_wp true sL sx eX2_term CALL [] Q R 400 0 (sx_argsF 0 [.inr (.inl 7), .inl a0]) [] s := by
  have zz9 := hK0 (fun _ _ h => h) (s.1 7 1) p2 p3
  rw [px_ui rfl] at zz9
  repeat' (first | (with_reducible intro _) | (refine And.intro ?_ ?_))
  all_goals (try dsimp only at *)
  all_goals (first | exact zz9 | omega | (exfalso; omega))
theorem c_dg_term {sL : Nat} {sx : Nat → Int32} (hsL : sL ≤ 3072) (b : Nat → Int) (n : Int) : ∀ g : Nat, g ≤ 21 → ∀ d, 6 + 2 * g ≤ d → ∀ (a0 : Int) (s : sx_S) (K : Int → sx_S → Prop), cx_I s → a0 = 21 - (g : Int) → (px_TK b n s) → (0 ≤ s.1 7 1) → (px_lv b n (s.1 7 1).toNat) → (∀ x c, px_TM (px_K b n) g (s.1 7 1) x c → 0 ≤ c → px_lv b n c.toNat → K 1 (sx_uf s.1 7 1 c, s.2)) → ((∀ x c, ¬ px_TM (px_K b n) g (s.1 7 1) x c) → ∀ c, 0 ≤ c → px_lv b n c.toNat → K 0 (sx_uf s.1 7 1 c, s.2)) → sx_C sL sx d 41 [.inr (.inl 7), .inl a0] s K := by
  intro g
  induction g with
  | zero =>
    intro _ d hd a0 s K hI p0 p1 p2 p3 hK1 hK0
    obtain ⟨e, rfl⟩ : ∃ e, d = e + 2 := ⟨d - 2, by omega⟩
    exact sx_meth (wr := true) (n := 400) hsL (e := eX2_term) rfl (w_dg_term0 (g := 0) (Q := fun _ _ _ => False) hI (by omega) p1 p2 p3 hK1 hK0)
  | succ g ih =>
    intro hg d hd a0 s K hI p0 p1 p2 p3 hK1 hK0
    obtain ⟨e, rfl⟩ : ∃ e, d = e + 3 := ⟨d - 3, by omega⟩
    exact sx_meth (wr := true) (n := 400) hsL (e := eX2_term) rfl (w_dg_term (Q := fun _ _ _ => False) (c_dx_tk hsL (e + 2) (by omega) b n) (c_dg_type hsL b n g (by omega) (e + 2) (by omega)) (ih (by omega) (e + 2) (by omega)) (st_dg_args hsL (c_dx_tk hsL (e + 1) (by omega) b n) (ih (by omega) (e + 1) (by omega)) (by omega)) hI (by omega) (by omega) p1 p2 p3 hK1 hK0)
theorem c_dg_item {sL : Nat} {sx : Nat → Int32} (hsL : sL ≤ 3072) (b : Nat → Int) (n : Int) (d : Nat) (hd : 50 ≤ d) : ∀ (s : sx_S) (K : Int → sx_S → Prop), cx_I s → (px_TK b n s) → (0 ≤ s.1 7 1) → (px_lv b n (s.1 7 1).toNat) → (∀ x c, px_IT (px_K b n) (s.1 7 1) x c → 0 ≤ c → px_lv b n c.toNat → K 1 (sx_uf s.1 7 1 c, s.2)) → ((∀ x c, ¬ px_IT (px_K b n) (s.1 7 1) x c) → ∀ c, 0 ≤ c → px_lv b n c.toNat → K 0 (sx_uf s.1 7 1 c, s.2)) → sx_C sL sx d 38 [.inr (.inl 7)] s K := by
  intro s K hI p1 p2 p3 hK1 hK0
  obtain ⟨e, rfl⟩ : ∃ e, d = e + 2 := ⟨d - 2, by omega⟩
  exact sx_meth (wr := true) (n := 400) hsL (e := eX2_item) rfl (w_dg_item (Q := fun _ _ _ => False) (c_dx_tk hsL (e + 1) (by omega) b n) (c_dg_type hsL b n 21 (by omega) (e + 1) (by omega)) (c_dg_term hsL b n 21 (by omega) (e + 1) (by omega)) hI p1 p2 p3 hK1 hK0)
/-- a text from token a on -/
def px_TX (K : Nat → Int) : List ((Int × Int × qx_T) × (px_N × px_N)) → Int → Prop
  | [], a => K a.toNat = 0
  | q :: l, a => ∃ c, px_IT K a q c ∧ px_TX K l c
theorem px_IT_fun {K : Nat → Int} {a c c' : Int} {q q' : (Int × Int × qx_T) × (px_N × px_N)} (h : px_IT K a q c) (h' : px_IT K a q' c') : q = q' ∧ c = c' := by
  rcases h with ⟨a1, _, _, x, e, a2, _, a3, a4⟩ | ⟨a1, t, e, u, g, a2, _, a3, _, a4, a5⟩ <;> rcases h' with ⟨b1, _, _, y, f, b2, _, b3, b4⟩ | ⟨b1, t', e', u', g', b2, _, b3, _, b4, b5⟩
  · obtain ⟨rfl, rfl⟩ := px_TY_fun a2 b2
    exact ⟨by rw [a4, b4], by omega⟩
  · omega
  · omega
  · obtain ⟨rfl, rfl⟩ := px_TM_fun a2 b2
    obtain ⟨rfl, rfl⟩ := px_TM_fun a3 b3
    exact ⟨by rw [a5, b5], by omega⟩
theorem px_IT_k {K : Nat → Int} {a c : Int} {q : (Int × Int × qx_T) × (px_N × px_N)} (h : px_IT K a q c) : K a.toNat ≠ 0 := by
  rcases h with ⟨a1, _⟩ | ⟨a1, _⟩ <;> omega
theorem px_IT_le {K : Nat → Int} {a c : Int} {q : (Int × Int × qx_T) × (px_N × px_N)} (h : px_IT K a q c) : a < c := by
  rcases h with ⟨a1, _, _, x, e, a2, _, a3, a4⟩ | ⟨a1, t, e, u, g, a2, _, a3, _, a4, a5⟩
  · have := px_TY_le a2
    omega
  · have := px_TM_le a2
    have := px_TM_le a3
    omega
theorem px_TX_fun {K : Nat → Int} : ∀ {l l' : List ((Int × Int × qx_T) × (px_N × px_N))} {a : Int}, px_TX K l a → px_TX K l' a → l = l'
  | [], [], _, _, _ => rfl
  | [], _ :: _, _, h, ⟨_, k, _⟩ => absurd h (px_IT_k k)
  | _ :: _, [], _, ⟨_, k, _⟩, h => absurd h (px_IT_k k)
  | q :: l, q' :: l', a, ⟨c, h1, h2⟩, ⟨c', k1, k2⟩ => by
    obtain ⟨rfl, rfl⟩ := px_IT_fun h1 k1
    rw [px_TX_fun h2 k2]
/-- within the loop over items -/
def px_XJ (K : Nat → Int) (c x1 x2 : Int) : Prop := (x1 = 1 ∧ x2 ≤ c ∧ ((∃ l, px_TX K l 0) ↔ ∃ l, px_TX K l c)) ∨ (x1 = 0 ∧ ∀ l, ¬ px_TX K l 0)
theorem px_xj_i {K : Nat → Int} {c e x2 : Int} {q : (Int × Int × qx_T) × (px_N × px_N)} (h : (∃ l, px_TX K l 0) ↔ ∃ l, px_TX K l c) (h2 : x2 ≤ c) (hi : px_IT K c q e) : px_XJ K e 1 (x2 + 1) := by
  refine Or.inl ⟨rfl, by have := px_IT_le hi; omega, h.trans ⟨?_, ?_⟩⟩
  · rintro ⟨_ | ⟨p, l⟩, hl⟩
    · exact absurd hl (px_IT_k hi)
    · obtain ⟨c', k1, k2⟩ := hl
      obtain ⟨rfl, rfl⟩ := px_IT_fun hi k1
      exact ⟨l, k2⟩
  · rintro ⟨l, hl⟩
    exact ⟨q :: l, e, hi, hl⟩
theorem px_xj_n {K : Nat → Int} {c c' x2 : Int} (h : (∃ l, px_TX K l 0) ↔ ∃ l, px_TX K l c) (h0 : K c.toNat ≠ 0) (hi : ∀ q e, ¬ px_IT K c q e) : px_XJ K c' 0 x2 := by
  refine Or.inr ⟨rfl, fun l hl => ?_⟩
  obtain ⟨_ | ⟨p, l⟩, hl⟩ := h.mp ⟨l, hl⟩
  · exact h0 hl
  · obtain ⟨c', k1, k2⟩ := hl
    exact hi _ _ k1
theorem px_xj_e {K : Nat → Int} {c : Int} (h : (∃ l, px_TX K l 0) ↔ ∃ l, px_TX K l c) (h0 : K c.toNat = 0) : ∃ l, px_TX K l 0 := h.mpr ⟨[], h0⟩


theorem w_dg_acc {CALL : sx_Ca} {b : Nat → Int} {n : Int} {sL : Nat} {sx : Nat → Int32} {Q : Nat → sx_L → sx_S → Prop} {R : Int → sx_S → Prop} (h_kd : ∀ (t0 : Int) (s : sx_S) (K : Int → sx_S → Prop), cx_I s → (0 ≤ t0 ∧ t0 ≤ 1000) → (px_TK b n s) → (px_lv b n t0.toNat) → (∀ z : Int, (z = px_K b n t0.toNat) → K z s) → CALL 101 [.inr (.inl 2), .inl t0] s K) (h_it : ∀ (s : sx_S) (K : Int → sx_S → Prop), cx_I s → (px_TK b n s) → (0 ≤ s.1 7 1) → (px_lv b n (s.1 7 1).toNat) → (∀ x c, px_IT (px_K b n) (s.1 7 1) x c → 0 ≤ c → px_lv b n c.toNat → K 1 (sx_uf s.1 7 1 c, s.2)) → ((∀ x c, ¬ px_IT (px_K b n) (s.1 7 1) x c) → ∀ c, 0 ≤ c → px_lv b n c.toNat → K 0 (sx_uf s.1 7 1 c, s.2)) → CALL 38 [.inr (.inl 7)] s K) {s : sx_S} (hI : cx_I s) (p1 : px_TK b n s) (hK1 : (∃ l, px_TX (px_K b n) l 0) → ∀ c, 0 ≤ c → px_lv b n c.toNat → R 1 (sx_uf s.1 7 1 c, s.2)) (hK0 : (∀ l, ¬ px_TX (px_K b n) l 0) → ∀ c, 0 ≤ c → px_lv b n c.toNat → R 0 (sx_uf s.1 7 1 c, s.2)) (hQ9 : ∀ x1 y2 c', 0 ≤ c' → px_lv b n c'.toNat → (0 ≤ y2 ∧ y2 ≤ 240) → px_XJ (px_K b n) c' x1 y2 → Q 9 [(0, .inr (.inl 7)), (1, .inl x1), (2, .inl y2)] (sx_uf s.1 7 1 c', s.2)) : sx_wp true sL sx eX2_accepts CALL [(9, [0, 1, 2])] Q R 400 0 (sx_argsF 0 [.inr (.inl 7)]) [] s :=
  hQ9 1 0 0 (by omega) px_lv_0 (by omega) (Or.inl ⟨rfl, by omega, Iff.rfl⟩)
theorem w_dg_acc_9 {CALL : sx_Ca} {b : Nat → Int} {n : Int} {sL : Nat} {sx : Nat → Int32} {Q : Nat → sx_L → sx_S → Prop} {R : Int → sx_S → Prop} (h_kd : ∀ (t0 : Int) (s : sx_S) (K : Int → sx_S → Prop), cx_I s → (0 ≤ t0 ∧ t0 ≤ 1000) → (px_TK b n s) → (px_lv b n t0.toNat) → (∀ z : Int, (z = px_K b n t0.toNat) → K z s) → CALL 101 [.inr (.inl 2), .inl t0] s K) (h_it : ∀ (s : sx_S) (K : Int → sx_S → Prop), cx_I s → (px_TK b n s) → (0 ≤ s.1 7 1) → (px_lv b n (s.1 7 1).toNat) → (∀ x c, px_IT (px_K b n) (s.1 7 1) x c → 0 ≤ c → px_lv b n c.toNat → K 1 (sx_uf s.1 7 1 c, s.2)) → ((∀ x c, ¬ px_IT (px_K b n) (s.1 7 1) x c) → ∀ c, 0 ≤ c → px_lv b n c.toNat → K 0 (sx_uf s.1 7 1 c, s.2)) → CALL 38 [.inr (.inl 7)] s K) {s : sx_S} (hI : cx_I s) (p1 : px_TK b n s) (hK1 : (∃ l, px_TX (px_K b n) l 0) → ∀ c, 0 ≤ c → px_lv b n c.toNat → R 1 (sx_uf s.1 7 1 c, s.2)) (hK0 : (∀ l, ¬ px_TX (px_K b n) l 0) → ∀ c, 0 ≤ c → px_lv b n c.toNat → R 0 (sx_uf s.1 7 1 c, s.2)) {x1 x2 c : Int} (q0 : 0 ≤ c) (q1 : px_lv b n c.toNat) (q2 : 0 ≤ x2 ∧ x2 ≤ 240) (q3 : px_XJ (px_K b n) c x1 x2) (hQ9 : ∀ x1 y2 c', 0 ≤ c' → px_lv b n c'.toNat → (0 ≤ y2 ∧ y2 ≤ 240) → px_XJ (px_K b n) c' x1 y2 → x2 < y2 → Q 9 [(0, .inr (.inl 7)), (1, .inl x1), (2, .inl y2)] (sx_uf s.1 7 1 c', s.2)) : sx_wp true sL sx eX2_accepts CALL [(9, [0, 1, 2])] Q R 400 9 [(0, .inr (.inl 7)), (1, .inl x1), (2, .inl x2)] [] (sx_uf s.1 7 1 c, s.2) := by
  have zzw : sx_w true (x2 + 1) = x2 + 1 := px_wid (by omega) (by omega)
  have zzk := px_TK_kd p1 q0 q1
  have zzt := (p1 trivial).1
  have zzr := px_K_r b n c.toNat
  rcases q3 with ⟨rfl, q4, q5⟩ | ⟨rfl, q4⟩
  · repeat' (first | (with_reducible (rintro _ rfl)) | (with_reducible intro _) | (refine And.intro ?_ ?_) | (refine h_kd _ _ _ ?_ ?_ ?_ ?_ ?_) | (refine h_it _ _ ?_ ?_ ?_ ?_ ?_ ?_))
    all_goals (try dsimp only at *)
    all_goals (try simp only [px_us, px_uu] at *)
    all_goals (first | trivial | assumption | omega | (exfalso; omega) | (exact px_cI hI p1 q0 q1) | (exact hQ9 _ _ _ (by assumption) (by assumption) (by rw [zzw]; omega) (by rw [zzw]; exact px_xj_i q5 q4 (by assumption)) (by rw [zzw]; omega)) | (exact hQ9 _ _ _ (by assumption) (by assumption) (by rw [zzw]; omega) (by rw [zzw]; exact px_xj_n q5 (by assumption) (by assumption)) (by rw [zzw]; omega)) | (exact hK1 (px_xj_e q5 (by omega)) _ q0 q1) | skip)
  · have zz9 := hK0 q4 c q0 q1
    repeat' (first | (with_reducible intro _) | (refine And.intro ?_ ?_))
    all_goals (first | exact zz9 | omega | (exfalso; omega))
theorem c_dg_acc {sL : Nat} {sx : Nat → Int32} (hsL : sL ≤ 3072) (b : Nat → Int) (n : Int) (d : Nat) (hd : 52 ≤ d) : ∀ (s : sx_S) (K : Int → sx_S → Prop), cx_I s → px_TK b n s → ((∃ l, px_TX (px_K b n) l 0) → ∀ c, 0 ≤ c → px_lv b n c.toNat → K 1 (sx_uf s.1 7 1 c, s.2)) → ((∀ l, ¬ px_TX (px_K b n) l 0) → ∀ c, 0 ≤ c → px_lv b n c.toNat → K 0 (sx_uf s.1 7 1 c, s.2)) → sx_C sL sx d 35 [.inr (.inl 7)] s K := by
  intro s K hI p1 hK1 hK0
  obtain ⟨d, rfl⟩ : ∃ e, d = e + 2 := ⟨d - 2, by omega⟩
  refine sx_methL (wr := true) (n := 400) (n' := 400) (stop := [(9, [0, 1, 2])]) (fun nn pc ls u => pc = 9 ∧ ∃ x1 x2 c : Int, ls = [(0, .inr (.inl 7)), (1, .inl x1), (2, .inl x2)] ∧ u = (sx_uf s.1 7 1 c, s.2) ∧ 0 ≤ c ∧ px_lv b n c.toNat ∧ (0 ≤ x2 ∧ x2 ≤ 240) ∧ px_XJ (px_K b n) c x1 x2 ∧ nn = (240 - x2).toNat) hsL (e := eX2_accepts) rfl ?_ ?_
  · exact w_dg_acc (c_dx_kind hsL (d + 1) (by omega) b n) (c_dg_item hsL b n (d + 1) (by omega)) hI p1 hK1 hK0 (fun x1 x2 c q0 q1 q2 q3 => ⟨_, rfl, x1, x2, c, rfl, rfl, q0, q1, q2, q3, rfl⟩)
  · rintro nn pc ls u ⟨rfl, x1, x2, c, rfl, rfl, q0, q1, q2, q3, rfl⟩
    exact w_dg_acc_9 (c_dx_kind hsL (d + 1) (by omega) b n) (c_dg_item hsL b n (d + 1) (by omega)) hI p1 hK1 hK0 q0 q1 q2 q3 (fun y1 y2 c' r0 r1 r2 r3 hm => ⟨_, by omega, rfl, y1, y2, c', rfl, rfl, r0, r1, r2, r3, rfl⟩)
end
