section
/-! ===== the desk's tokens, exactly: a word's kind ===== -/
theorem w_dx_wordKind {CALL : sx_Ca} {b : Nat → Int} {n : Int} {sL : Nat} {sx : Nat → Int32} {Q : Nat → sx_L → sx_S → Prop} {R : Int → sx_S → Prop} (h_dx_sq1 : ∀ (a0 a1 : Int) (s : sx_S) (K : Int → sx_S → Prop), cx_I s → (0 ≤ a0 ∧ a0 ≤ 239) → (0 ≤ a1 ∧ a1 ≤ 240) → (s.2.1 3 = b) → (s.1 2 4 = n) → (a0 ≤ a1 ∧ a1 ≤ n) → (∀ z : Int, (z = 0 ∨ z = 1) → (z ≠ 0 → px_wq 1 b a0 a1 = true) → (z = 0 → px_wq 1 b a0 a1 = false) → K z s) → CALL 110 [.inr (.inl 2), .inl a0, .inl a1, .inr (.inl 1000003)] s K) (h_dx_sq2 : ∀ (a0 a1 : Int) (s : sx_S) (K : Int → sx_S → Prop), cx_I s → (0 ≤ a0 ∧ a0 ≤ 239) → (0 ≤ a1 ∧ a1 ≤ 240) → (s.2.1 3 = b) → (s.1 2 4 = n) → (a0 ≤ a1 ∧ a1 ≤ n) → (∀ z : Int, (z = 0 ∨ z = 1) → (z ≠ 0 → px_wq 2 b a0 a1 = true) → (z = 0 → px_wq 2 b a0 a1 = false) → K z s) → CALL 110 [.inr (.inl 2), .inl a0, .inl a1, .inr (.inl 1000005)] s K) (h_dx_sq3 : ∀ (a0 a1 : Int) (s : sx_S) (K : Int → sx_S → Prop), cx_I s → (0 ≤ a0 ∧ a0 ≤ 239) → (0 ≤ a1 ∧ a1 ≤ 240) → (s.2.1 3 = b) → (s.1 2 4 = n) → (a0 ≤ a1 ∧ a1 ≤ n) → (∀ z : Int, (z = 0 ∨ z = 1) → (z ≠ 0 → px_wq 3 b a0 a1 = true) → (z = 0 → px_wq 3 b a0 a1 = false) → K z s) → CALL 110 [.inr (.inl 2), .inl a0, .inl a1, .inr (.inl 1000007)] s K) (h_dx_sq4 : ∀ (a0 a1 : Int) (s : sx_S) (K : Int → sx_S → Prop), cx_I s → (0 ≤ a0 ∧ a0 ≤ 239) → (0 ≤ a1 ∧ a1 ≤ 240) → (s.2.1 3 = b) → (s.1 2 4 = n) → (a0 ≤ a1 ∧ a1 ≤ n) → (∀ z : Int, (z = 0 ∨ z = 1) → (z ≠ 0 → px_wq 4 b a0 a1 = true) → (z = 0 → px_wq 4 b a0 a1 = false) → K z s) → CALL 110 [.inr (.inl 2), .inl a0, .inl a1, .inr (.inl 1000009)] s K) (h_dx_sq5 : ∀ (a0 a1 : Int) (s : sx_S) (K : Int → sx_S → Prop), cx_I s → (0 ≤ a0 ∧ a0 ≤ 239) → (0 ≤ a1 ∧ a1 ≤ 240) → (s.2.1 3 = b) → (s.1 2 4 = n) → (a0 ≤ a1 ∧ a1 ≤ n) → (∀ z : Int, (z = 0 ∨ z = 1) → (z ≠ 0 → px_wq 5 b a0 a1 = true) → (z = 0 → px_wq 5 b a0 a1 = false) → K z s) → CALL 110 [.inr (.inl 2), .inl a0, .inl a1, .inr (.inl 1000011)] s K) {s : sx_S} {a0 a1 : Int} (hI : cx_I s) (p0 : (0 ≤ a0 ∧ a0 ≤ 239)) (p1 : (0 ≤ a1 ∧ a1 ≤ 240)) (p2 : (s.2.1 3 = b)) (p3 : (s.1 2 4 = n)) (p4 : (a0 ≤ a1 ∧ a1 ≤ n)) (hK : ∀ z : Int, (z = px_wk b a0 a1) → R z s) : sx_wp true sL sx eX8_wordKind CALL [] Q R 400 0 (sx_argsF 0 [.inr (.inl 2), .inl a0, .inl a1]) [] s := by
  have zzs : sx_w true (a1 - a0) = a1 - a0 := px_wid (by omega) (by omega)
  repeat' (first | (with_reducible intro _) | (refine And.intro ?_ ?_) | (refine hK _ ?_) | (refine h_dx_sq1 _ _ _ _ ?_ ?_ ?_ ?_ ?_ ?_ ?_) | (refine h_dx_sq2 _ _ _ _ ?_ ?_ ?_ ?_ ?_ ?_ ?_) | (refine h_dx_sq3 _ _ _ _ ?_ ?_ ?_ ?_ ?_ ?_ ?_) | (refine h_dx_sq4 _ _ _ _ ?_ ?_ ?_ ?_ ?_ ?_ ?_) | (refine h_dx_sq5 _ _ _ _ ?_ ?_ ?_ ?_ ?_ ?_ ?_))
  all_goals (try dsimp only)
  repeat' (first | (with_reducible assumption) | ((with_reducible (change cx_I (sx_uf _ _ _ _, _))); refine cx_I_uf rfl rfl ?_ ?_ ?_) | ((with_reducible (change cx_I (_, sx_ua _ _ _ _, _))); refine cx_I_ua rfl rfl ?_ ?_ ?_) | ((with_reducible (change cx_I (_, sx_ua _ 16 _ _, _))); refine cx_I_ari ?_ ?_ ?_) | ((with_reducible (change cx_I (sx_uf _ 11 6 _, _))); refine cx_I_ufA rfl ?_ ?_ ?_ ?_) | (with_reducible exact cx_F_refl _ _) | ((with_reducible (change cx_F _ _ (sx_uf _ _ _ _, _))); refine cx_F_uf rfl ?_) | ((with_reducible (change cx_F _ _ (_, sx_ua _ _ _ _, _))); refine cx_F_ua rfl ?_) | ((with_reducible (change cx_I (_, sx_cpy _ _ _ _ _ _, _))); refine cx_I_cpy rfl rfl rfl (by decide) ?_) | ((with_reducible (change cx_F _ _ (_, sx_cpy _ _ _ _ _ _, _))); refine cx_F_cpy rfl ?_) | ((with_reducible (change cx_F _ _ _)); refine cx_F_step (by assumption) rfl ?_) | ((with_reducible (change rf_f _ _ (sx_uf _ 66 _ _, _))); refine rf_f_uf rfl ?_) | ((with_reducible (change rf_f _ _ _)); exact (fun _ _ => rfl)) | ((with_reducible (change rf_f _ _ (_, sx_ua _ _ _ _, _))); refine rf_f_ua ?_) | ((with_reducible (change rf_f _ _ _)); assumption) | ((with_reducible (change rf_f _ _ _)); refine rf_f_step (by assumption) rfl ?_) | ((with_reducible (change rf_f _ _ _)); refine rf_f_F (by assumption) rfl ?_) | ((with_reducible (change px_g1 _ _ _ (_, sx_ua _ _ _ _, _))); refine px_g1_ua rfl (by omega) ?_) | ((with_reducible (change px_g1 _ _ _ _)); exact px_g1_refl _ _ _) | ((with_reducible (change px_g1 _ _ _ _)); assumption) | ((with_reducible (change sx_ua _ _ _ _ _ = _)); refine px_a_ua rfl ?_) | ((with_reducible (change px_RT _ _ _ (sx_uf _ _ _ _, _))); refine px_RT_uf ?_) | ((with_reducible (change px_RT _ _ _ (_, sx_ua _ 69 _ _, _))); refine px_RT_up (by assumption) (by assumption) (by assumption) (by assumption) (by assumption) (by omega) (px_bl_st (by assumption) (by omega)) (by omega)) | ((with_reducible (change px_RT _ _ _ (_, sx_ua _ _ _ _, _))); refine px_RT_ua rfl ?_) | ((with_reducible (change px_RT _ _ 0 _)); exact px_RT_0) | ((with_reducible (change px_RT _ _ _ _)); assumption) | ((with_reducible (change px_RT _ _ _ _)); refine px_RT_F (by assumption) rfl rfl rfl ?_) | ((with_reducible (change px_REx _ _ _)); exact px_REx_mk (by assumption) (by assumption) (by omega) (by omega)) | ((with_reducible (change (_ : sx_S).1 _ _ = _)); refine px_f_F (by assumption) rfl ?_) | ((with_reducible (change (_ : sx_S).2.1 _ = _)); refine px_a_F (by assumption) rfl ?_) | ((with_reducible (change sx_uf _ _ _ _ _ _ = _)); refine px_f_uf rfl ?_) | fail)
  all_goals (try dsimp only at *)
  all_goals (first | ((with_reducible (change _ = px_wk _ _ _)); exact (px_wk_1 (by omega)).symm) | ((with_reducible (change _ = px_wk _ _ _)); exact (px_wk_3 (by omega) (by assumption) (by assumption)).symm) | ((with_reducible (change _ = px_wk _ _ _)); exact (px_wk_4 (by omega) (by assumption) (by assumption) (by assumption) (by assumption)).symm) | ((with_reducible (change _ = px_wk _ _ _)); exact (px_wk_5 (by omega) (by assumption) (by assumption) (by assumption) (by assumption) (by assumption) (by assumption)).symm) | ((with_reducible (change _ = px_wk _ _ _)); exact (px_wk_6 (by omega) (by assumption) (by assumption) (by assumption) (by assumption) (by assumption) (by assumption) (by assumption) (by assumption)).symm) | ((with_reducible (change _ = px_wk _ _ _)); exact (px_wk_7 (by omega) (by assumption) (by assumption) (by assumption) (by assumption) (by assumption) (by assumption) (by assumption) (by assumption) (by assumption) (by assumption)).symm) | ((with_reducible (change _ = px_wk _ _ _)); exact (px_wk_2 (by omega) (by assumption) (by assumption) (by assumption) (by assumption) (by assumption) (by assumption) (by assumption) (by assumption) (by assumption) (by assumption)).symm) | trivial | assumption | rfl | omega | (dsimp only at *; omega) | (simp only [sx_uf_if, sx_ua_if, sx_w_t, true_and, and_true, and_self, and_false, false_and, if_true, if_false, reduceIte] at *; omega))

theorem c_dx_wordKind {sL : Nat} {sx : Nat → Int32} (hsL : sL ≤ 3072) (d : Nat) (hd : 5 ≤ d) (b : Nat → Int) (n : Int) : ∀ (a0 a1 : Int) (s : sx_S) (K : Int → sx_S → Prop), cx_I s → (0 ≤ a0 ∧ a0 ≤ 239) → (0 ≤ a1 ∧ a1 ≤ 240) → (s.2.1 3 = b) → (s.1 2 4 = n) → (a0 ≤ a1 ∧ a1 ≤ n) → (∀ z : Int, (z = px_wk b a0 a1) → K z s) → sx_C sL sx d 109 [.inr (.inl 2), .inl a0, .inl a1] s K := by
  intro a0 a1 s K hI p0 p1 p2 p3 p4 hK
  obtain ⟨d, rfl⟩ : ∃ e, d = e + 2 := ⟨d - 2, by omega⟩
  exact sx_meth (wr := true) (n := 400) hsL (e := eX8_wordKind) rfl (w_dx_wordKind (Q := fun _ _ _ => False) (c_dx_sq1 hsL (d + 1) (by omega) b n) (c_dx_sq2 hsL (d + 1) (by omega) b n) (c_dx_sq3 hsL (d + 1) (by omega) b n) (c_dx_sq4 hsL (d + 1) (by omega) b n) (c_dx_sq5 hsL (d + 1) (by omega) b n) hI p0 p1 p2 p3 p4 hK)
end
section
/-! ===== the desk's tokens, exactly: all of them ===== -/
/-- the desk has the first m tokens -/
def px_DT (b : Nat → Int) (n m : Int) (t : sx_S) : Prop := ∀ j : Nat, (j : Int) < m → t.2.1 4 j = px_K b n j ∧ t.2.1 5 j = px_ps b n j ∧ t.2.1 6 j = px_en b n (px_ps b n j)
theorem px_DT_0 {b : Nat → Int} {n m : Int} {t : sx_S} (h : m = 0) : px_DT b n m t := fun j hj => by omega
theorem px_DT_F {V : List (Nat × Nat)} {b : Nat → Int} {n m : Int} {s t : sx_S} (hF : cx_F V s t) (h1 : cx_outb V 4 = true) (h2 : cx_outb V 5 = true) (h3 : cx_outb V 6 = true) (h : px_DT b n m s) : px_DT b n m t := by
  intro j hj
  rw [(hF.same 4 h1).2, (hF.same 5 h2).2, (hF.same 6 h3).2]
  exact h j hj
theorem px_DT_uf {b : Nat → Int} {n m : Int} {F : Nat → Nat → Int} {B : (Nat → Nat → Int) × (Nat → Nat → Int) × Nat} {p k : Nat} {v : Int} (h : px_DT b n m (F, B)) : px_DT b n m (sx_uf F p k v, B) := h
theorem px_DT_up {b : Nat → Int} {n m a kd en w k1 k2 k3 : Int} {F A : Nat → Nat → Int} {B : (Nat → Nat → Int) × Nat} (h : px_DT b n m (F, A, B)) (h0 : 0 ≤ m) (hs : px_ps b n m.toNat = a) (hk : kd = px_kd b n a) (he : en = px_en b n a) (e1 : k1 = m) (e2 : k2 = m) (e3 : k3 = m) (hw : w = m + 1) : px_DT b n w (F, sx_ua (sx_ua (sx_ua A 4 k1.toNat kd) 5 k2.toNat a) 6 k3.toNat en, B) := by
  rw [e1, e2, e3]
  subst hw
  intro j hj
  show (if j = m.toNat then kd else A 4 j) = _ ∧ (if j = m.toNat then a else A 5 j) = _ ∧ (if j = m.toNat then en else A 6 j) = _
  by_cases c : j = m.toNat
  · subst c
    rw [if_pos rfl, if_pos rfl, if_pos rfl, he, hk, ← hs]
    exact ⟨rfl, rfl, rfl⟩
  · rw [if_neg c, if_neg c, if_neg c]
    exact h j (by omega)
theorem px_s7_r (c : Int) : 1 ≤ px_s7 c ∧ px_s7 c ≤ 15 := by
  unfold px_s7
  (repeat' split) <;> decide
theorem px_sg_r (b : Nat → Int) (n k : Int) : 1 ≤ px_sg b n k ∧ px_sg b n k ≤ 15 := by
  unfold px_sg
  split
  · split <;> decide
  · exact px_s7_r _
theorem px_wk_r (b : Nat → Int) (k e : Int) : 1 ≤ px_wk b k e ∧ px_wk b k e ≤ 7 := by
  unfold px_wk
  split
  · decide
  · cases px_wq 1 b k e <;> cases px_wq 2 b k e <;> cases px_wq 3 b k e <;> cases px_wq 4 b k e <;> cases px_wq 5 b k e <;> decide
theorem px_kd_r (b : Nat → Int) (n k : Int) : 0 ≤ px_kd b n k ∧ px_kd b n k ≤ 15 := by
  have h1 := px_wk_r b k (px_ru px_wdb b n k)
  have h2 := px_sg_r b n k
  unfold px_kd
  split
  · decide
  · split <;> omega
theorem px_kd_ar {b : Nat → Int} {n a : Int} (h : a < n) (e : px_sg b n a = 8) : px_kd b n a = 8 ∧ px_en b n a = a + 2 := by
  have hl : ¬ px_le (b a.toNat) := by
    intro q
    unfold px_sg at e
    rw [if_neg (by omega)] at e
    exact (px_s7_v _).2 e
  obtain ⟨h1, h2⟩ := px_kds h hl
  rw [h1, h2, e]
  exact ⟨rfl, rfl⟩
theorem px_kd_le {b : Nat → Int} {n a : Int} (h : a < n) (hl : px_le (b a.toNat)) : px_kd b n a = px_wk b a (px_ru px_wdb b n a) ∧ px_en b n a = px_ru px_wdb b n a := by
  have h5 : ¬ n ≤ a := by omega
  unfold px_kd px_en
  simp only [if_neg h5, if_pos hl, and_self]
theorem px_kd_sg {b : Nat → Int} {n a : Int} (h : a < n) (hl : ¬ px_le (b a.toNat)) (e : px_sg b n a ≠ 8) : px_kd b n a = px_sg b n a ∧ px_en b n a = a + 1 := by
  obtain ⟨h1, h2⟩ := px_kds h hl
  rw [h1, h2, if_neg e]
  exact ⟨rfl, rfl⟩
def px_kz (b : Nat → Int) (n a : Int) : Int := if px_kd b n a = 1 then n else px_en b n a
/-- while reading: k the place, m tokens so far -/
def px_ds (b : Nat → Int) (n k m : Int) : Prop := (px_lv b n m.toNat ∧ px_ru px_blb b n k = px_ps b n m.toNat) ∨ (k = n ∧ 1 ≤ m ∧ px_lv b n (m - 1).toNat ∧ px_K b n (m - 1).toNat = 1)
theorem px_ds_0 {b : Nat → Int} {n m : Int} (h : m = 0) : px_ds b n 0 m := by
  subst h
  exact Or.inl ⟨px_lv_0, rfl⟩
theorem px_ds_bl {b : Nat → Int} {n k m w : Int} (h : px_ds b n k m) (hk : k < n) (hc : px_bl (b k.toNat)) (hw : w = k + 1) : px_ds b n w m := by
  subst hw
  rcases h with ⟨h1, h2⟩ | h
  · exact Or.inl ⟨h1, px_bl_go h2 hk hc⟩
  · omega
theorem px_ds_at {b : Nat → Int} {n k m : Int} (h : px_ds b n k m) (hk : k < n) (hc : ¬ px_bl (b k.toNat)) : px_lv b n m.toNat ∧ px_ps b n m.toNat = k := by
  rcases h with ⟨h1, h2⟩ | h
  · exact ⟨h1, px_bl_st h2 (fun q => hc q.2)⟩
  · omega
theorem px_ds_tk {b : Nat → Int} {n k m w : Int} (h : px_ds b n k m) (hk : k < n) (hc : ¬ px_bl (b k.toNat)) (h0 : 0 ≤ m) (hw : w = m + 1) : px_ds b n (px_kz b n k) w := by
  obtain ⟨h1, h2⟩ := px_ds_at h hk hc
  have hne : px_kd b n k ≠ 0 := fun q => by
    have := px_kd_0 q
    omega
  unfold px_kz
  by_cases c : px_kd b n k = 1
  · rw [if_pos c]
    have e : (w - 1).toNat = m.toNat := by omega
    refine Or.inr ⟨rfl, by omega, by rw [e]; exact h1, ?_⟩
    rw [e]
    unfold px_K
    rw [h2]
    exact c
  · rw [if_neg c]
    refine Or.inl ⟨px_lv_up h1 h0 ?_ hw, ?_⟩
    · unfold px_K
      rw [h2]
      exact ⟨hne, c⟩
    · have e : w.toNat = m.toNat + 1 := by omega
      rw [e, ← h2]
      rfl
/-- all tokens of the desk -/
def px_DE (b : Nat → Int) (n m : Int) (t : sx_S) : Prop := True → (0 ≤ m ∧ m ≤ 240) ∧ px_DT b n m t ∧ ((px_lv b n m.toNat ∧ px_K b n m.toNat = 0) ∨ (1 ≤ m ∧ px_lv b n (m - 1).toNat ∧ px_K b n (m - 1).toNat = 1))
theorem px_DE_mk {b : Nat → Int} {n k m : Int} {t : sx_S} (h : px_DT b n m t) (hd : px_ds b n k m) (hk : k = n) (h0 : 0 ≤ m) (h1 : m ≤ 240) : px_DE b n m t := by
  refine fun _ => ⟨⟨h0, h1⟩, h, ?_⟩
  rcases hd with ⟨a1, a2⟩ | ⟨_, a2⟩
  · refine Or.inl ⟨a1, ?_⟩
    unfold px_K
    rw [← a2, hk, px_ru_st (by omega)]
    exact (px_kde (Int.le_refl n)).1
  · exact Or.inr a2

theorem w_dx_readToken {CALL : sx_Ca} {b : Nat → Int} {n : Int} {sL : Nat} {sx : Nat → Int32} {Q : Nat → sx_L → sx_S → Prop} {R : Int → sx_S → Prop} (h_dx_signAt : ∀ (a0 : Int) (s : sx_S) (K : Int → sx_S → Prop), cx_I s → (0 ≤ a0 ∧ a0 ≤ 239) → (s.2.1 3 = b) → (s.1 2 4 = n) → (a0 < n) → (∀ z : Int, (z = px_sg b n a0) → K z s) → CALL 107 [.inr (.inl 2), .inl a0] s K) (h_dx_isLetter : ∀ (c : Int) (s : sx_S) (K : Int → sx_S → Prop), cx_I s → (-2147483648 ≤ c ∧ c ≤ 2147483647) → (∀ z : Int, (z = 0 ∨ z = 1) → (z ≠ 0 → ((97 ≤ c ∧ c ≤ 122) ∨ (65 ≤ c ∧ c ≤ 90))) → (z = 0 → ¬ ((97 ≤ c ∧ c ≤ 122) ∨ (65 ≤ c ∧ c ≤ 90))) → K z s) → CALL 112 [.inl c] s K) (h_dx_wordEnd : ∀ (a0 : Int) (s : sx_S) (K : Int → sx_S → Prop), cx_I s → (0 ≤ a0 ∧ a0 ≤ 240) → (s.2.1 3 = b) → (s.1 2 4 = n) → (a0 ≤ n) → (∀ z : Int, (z = px_ru px_wdb b n a0) → K z s) → CALL 108 [.inr (.inl 2), .inl a0] s K) (h_dx_wordKind : ∀ (a0 a1 : Int) (s : sx_S) (K : Int → sx_S → Prop), cx_I s → (0 ≤ a0 ∧ a0 ≤ 239) → (0 ≤ a1 ∧ a1 ≤ 240) → (s.2.1 3 = b) → (s.1 2 4 = n) → (a0 ≤ a1 ∧ a1 ≤ n) → (∀ z : Int, (z = px_wk b a0 a1) → K z s) → CALL 109 [.inr (.inl 2), .inl a0, .inl a1] s K) {s : sx_S} {a0 : Int} (hI : cx_I s) (p0 : (0 ≤ a0 ∧ a0 ≤ 239)) (p1 : (s.2.1 3 = b)) (p2 : (s.1 2 4 = n)) (p3 : (a0 < n)) (p4 : (px_DT b n (s.1 2 5) s)) (p5 : (px_ps b n (s.1 2 5).toNat = a0)) (p6 : (0 ≤ s.1 2 5 ∧ s.1 2 5 ≤ 239)) (hK : ∀ (z : Int) (t : sx_S), cx_I t → cx_F [(2, 6)] s t → (z = px_kz b n a0) → (t.2.1 3 = b) → (t.1 2 4 = n) → (t.1 2 5 = s.1 2 5 + 1) → (px_DT b n (t.1 2 5) t) → R z t) (hQ48 : ∀ (x1 x2 x3 : Int) (t : sx_S), cx_I t → cx_F [(2, 6)] s t → (0 ≤ x1 ∧ x1 ≤ 239) → (-2147483648 ≤ x2 ∧ x2 ≤ 2147483647) → (-2147483648 ≤ x3 ∧ x3 ≤ 2147483647) → (a0 = x1) → (x2 = px_en b n a0) → (x3 = px_kd b n a0) → (t.2.1 3 = b) → (t.1 2 4 = n) → (t.1 2 5 = s.1 2 5) → (px_DT b n (s.1 2 5) t) → Q 48 [(0, .inr (.inl 2)), (1, .inl x1), (2, .inl x2), (3, .inl x3)] t) : sx_wp true sL sx eX8_readToken CALL [(48, [0, 1, 2, 3])] Q R 400 0 (sx_argsF 0 [.inr (.inl 2), .inl a0]) [] s := by
  have hn := hI.fld 2 4 (by decide) rfl
  have zzb : s.2.1 3 a0.toNat = b a0.toNat := by rw [p1]
  have zza : sx_w true (a0 + 1) = a0 + 1 := px_wid (by omega) (by omega)
  have zzd : sx_w true (a0 + 2) = a0 + 2 := px_wid (by omega) (by omega)
  have zzs := px_sg_r b n a0
  have zzk := px_wk_r b a0 (px_ru px_wdb b n a0)
  have zzr1 := px_ru_ge (p := px_wdb) (b := b) (n := n) (k := a0)
  have zzr2 := px_ru_le (p := px_wdb) (b := b) (n := n) (k := a0) (by omega)
  repeat' (first | (with_reducible intro _) | (refine And.intro ?_ ?_) | (refine hK _ _ ?_ ?_ ?_ ?_ ?_ ?_ ?_) | (refine h_dx_signAt _ _ _ ?_ ?_ ?_ ?_ ?_ ?_) | (refine h_dx_isLetter _ _ _ ?_ ?_ ?_) | (refine h_dx_wordEnd _ _ _ ?_ ?_ ?_ ?_ ?_ ?_) | (refine h_dx_wordKind _ _ _ _ ?_ ?_ ?_ ?_ ?_ ?_ ?_) | (refine hQ48 _ _ _ _ ?_ ?_ ?_ ?_ ?_ ?_ ?_ ?_ ?_ ?_ ?_ ?_))
  all_goals (try dsimp only)
  repeat' (first | (with_reducible assumption) | ((with_reducible (change cx_I (sx_uf _ _ _ _, _))); refine cx_I_uf rfl rfl ?_ ?_ ?_) | ((with_reducible (change cx_I (_, sx_ua _ _ _ _, _))); refine cx_I_ua rfl rfl ?_ ?_ ?_) | ((with_reducible (change cx_I (_, sx_ua _ 16 _ _, _))); refine cx_I_ari ?_ ?_ ?_) | ((with_reducible (change cx_I (sx_uf _ 11 6 _, _))); refine cx_I_ufA rfl ?_ ?_ ?_ ?_) | (with_reducible exact cx_F_refl _ _) | ((with_reducible (change cx_F _ _ (sx_uf _ _ _ _, _))); refine cx_F_uf rfl ?_) | ((with_reducible (change cx_F _ _ (_, sx_ua _ _ _ _, _))); refine cx_F_ua rfl ?_) | ((with_reducible (change cx_I (_, sx_cpy _ _ _ _ _ _, _))); refine cx_I_cpy rfl rfl rfl (by decide) ?_) | ((with_reducible (change cx_F _ _ (_, sx_cpy _ _ _ _ _ _, _))); refine cx_F_cpy rfl ?_) | ((with_reducible (change cx_F _ _ _)); refine cx_F_step (by assumption) rfl ?_) | ((with_reducible (change rf_f _ _ (sx_uf _ 66 _ _, _))); refine rf_f_uf rfl ?_) | ((with_reducible (change rf_f _ _ _)); exact (fun _ _ => rfl)) | ((with_reducible (change rf_f _ _ (_, sx_ua _ _ _ _, _))); refine rf_f_ua ?_) | ((with_reducible (change rf_f _ _ _)); assumption) | ((with_reducible (change rf_f _ _ _)); refine rf_f_step (by assumption) rfl ?_) | ((with_reducible (change rf_f _ _ _)); refine rf_f_F (by assumption) rfl ?_) | ((with_reducible (change px_g1 _ _ _ (_, sx_ua _ _ _ _, _))); refine px_g1_ua rfl (by omega) ?_) | ((with_reducible (change px_g1 _ _ _ _)); exact px_g1_refl _ _ _) | ((with_reducible (change px_g1 _ _ _ _)); assumption) | ((with_reducible (change sx_ua _ _ _ _ _ = _)); refine px_a_ua rfl ?_) | ((with_reducible (change px_RT _ _ _ (sx_uf _ _ _ _, _))); refine px_RT_uf ?_) | ((with_reducible (change px_RT _ _ _ (_, sx_ua _ 69 _ _, _))); refine px_RT_up (by assumption) (by assumption) (by assumption) (by assumption) (by assumption) (by omega) (px_bl_st (by assumption) (by omega)) (by omega)) | ((with_reducible (change px_RT _ _ _ (_, sx_ua _ _ _ _, _))); refine px_RT_ua rfl ?_) | ((with_reducible (change px_RT _ _ 0 _)); exact px_RT_0) | ((with_reducible (change px_RT _ _ _ _)); assumption) | ((with_reducible (change px_RT _ _ _ _)); refine px_RT_F (by assumption) rfl rfl rfl ?_) | ((with_reducible (change px_REx _ _ _)); exact px_REx_mk (by assumption) (by assumption) (by omega) (by omega)) | ((with_reducible (change (_ : sx_S).1 _ _ = _)); refine px_f_F (by assumption) rfl ?_) | ((with_reducible (change (_ : sx_S).2.1 _ = _)); refine px_a_F (by assumption) rfl ?_) | ((with_reducible (change sx_uf _ _ _ _ _ _ = _)); refine px_f_uf rfl ?_) | ((with_reducible (change px_DT _ _ _ (sx_uf _ _ _ _, _))); refine px_DT_uf ?_) | ((with_reducible (change px_DT _ _ _ _)); assumption) | ((with_reducible (change px_DT _ _ _ _)); refine px_DT_F (by assumption) rfl rfl rfl ?_) | fail)
  all_goals (try dsimp only at *)
  all_goals (first | ((with_reducible (change _ = px_kd _ _ _)); first | exact (px_kd_ar (by omega) (by omega)).1.symm | (rw [(px_kd_ar (by omega) (by omega)).1]; assumption) | (rw [(px_kd_ar (by omega) (by omega)).1]; subst_vars; rfl) | (rw [(px_kd_ar (by omega) (by omega)).1]; omega)) | ((with_reducible (change _ = px_kd _ _ _)); first | exact (px_kd_le (by omega) (by omega)).1.symm | (rw [(px_kd_le (by omega) (by omega)).1]; assumption) | (rw [(px_kd_le (by omega) (by omega)).1]; subst_vars; rfl) | (rw [(px_kd_le (by omega) (by omega)).1]; omega)) | ((with_reducible (change _ = px_kd _ _ _)); first | exact (px_kd_sg (by omega) (by omega) (by omega)).1.symm | (rw [(px_kd_sg (by omega) (by omega) (by omega)).1]; assumption) | (rw [(px_kd_sg (by omega) (by omega) (by omega)).1]; subst_vars; rfl) | (rw [(px_kd_sg (by omega) (by omega) (by omega)).1]; omega)) | ((with_reducible (change _ = px_en _ _ _)); (rw [(px_kd_ar (by omega) (by omega)).2]; omega)) | ((with_reducible (change _ = px_en _ _ _)); (rw [(px_kd_le (by omega) (by omega)).2]; omega)) | ((with_reducible (change _ = px_en _ _ _)); (rw [(px_kd_sg (by omega) (by omega) (by omega)).2]; omega)) | ((with_reducible (change px_DT _ _ _ _)); refine px_DT_up (m := s.1 2 5) (by assumption) (by omega) (by assumption) (by assumption) (by assumption) (by omega) (by omega) (by omega) (by rw [sx_uf_if, if_pos ⟨rfl, rfl⟩, sx_w_t]; omega)) | ((with_reducible (change _ = px_kz _ _ _)); (unfold px_kz; split <;> first | omega | (simp only [sx_uf_if, sx_ua_if, sx_w_t, true_and, and_true, and_self, and_false, false_and, if_true, if_false, reduceIte] at *; omega))) | trivial | assumption | rfl | omega | (dsimp only at *; omega) | (simp only [sx_uf_if, sx_ua_if, sx_w_t, true_and, and_true, and_self, and_false, false_and, if_true, if_false, reduceIte] at *; omega) | (subst_vars; omega))

theorem w_dx_readToken_48 {CALL : sx_Ca} {b : Nat → Int} {n : Int} {sL : Nat} {sx : Nat → Int32} {Q : Nat → sx_L → sx_S → Prop} {R : Int → sx_S → Prop} (h_dx_signAt : ∀ (a0 : Int) (s : sx_S) (K : Int → sx_S → Prop), cx_I s → (0 ≤ a0 ∧ a0 ≤ 239) → (s.2.1 3 = b) → (s.1 2 4 = n) → (a0 < n) → (∀ z : Int, (z = px_sg b n a0) → K z s) → CALL 107 [.inr (.inl 2), .inl a0] s K) (h_dx_isLetter : ∀ (c : Int) (s : sx_S) (K : Int → sx_S → Prop), cx_I s → (-2147483648 ≤ c ∧ c ≤ 2147483647) → (∀ z : Int, (z = 0 ∨ z = 1) → (z ≠ 0 → ((97 ≤ c ∧ c ≤ 122) ∨ (65 ≤ c ∧ c ≤ 90))) → (z = 0 → ¬ ((97 ≤ c ∧ c ≤ 122) ∨ (65 ≤ c ∧ c ≤ 90))) → K z s) → CALL 112 [.inl c] s K) (h_dx_wordEnd : ∀ (a0 : Int) (s : sx_S) (K : Int → sx_S → Prop), cx_I s → (0 ≤ a0 ∧ a0 ≤ 240) → (s.2.1 3 = b) → (s.1 2 4 = n) → (a0 ≤ n) → (∀ z : Int, (z = px_ru px_wdb b n a0) → K z s) → CALL 108 [.inr (.inl 2), .inl a0] s K) (h_dx_wordKind : ∀ (a0 a1 : Int) (s : sx_S) (K : Int → sx_S → Prop), cx_I s → (0 ≤ a0 ∧ a0 ≤ 239) → (0 ≤ a1 ∧ a1 ≤ 240) → (s.2.1 3 = b) → (s.1 2 4 = n) → (a0 ≤ a1 ∧ a1 ≤ n) → (∀ z : Int, (z = px_wk b a0 a1) → K z s) → CALL 109 [.inr (.inl 2), .inl a0, .inl a1] s K) {s : sx_S} {a0 : Int} (hI : cx_I s) (p0 : (0 ≤ a0 ∧ a0 ≤ 239)) (p1 : (s.2.1 3 = b)) (p2 : (s.1 2 4 = n)) (p3 : (a0 < n)) (p4 : (px_DT b n (s.1 2 5) s)) (p5 : (px_ps b n (s.1 2 5).toNat = a0)) (p6 : (0 ≤ s.1 2 5 ∧ s.1 2 5 ≤ 239)) (hK : ∀ (z : Int) (t : sx_S), cx_I t → cx_F [(2, 6)] s t → (z = px_kz b n a0) → (t.2.1 3 = b) → (t.1 2 4 = n) → (t.1 2 5 = s.1 2 5 + 1) → (px_DT b n (t.1 2 5) t) → R z t) {t : sx_S} (hJ : cx_I t) (hF : cx_F [(2, 6)] s t) {x1 x2 x3 : Int} {mm : Nat} (hm : mm = 1) (i0 : (0 ≤ x1 ∧ x1 ≤ 239)) (i1 : (-2147483648 ≤ x2 ∧ x2 ≤ 2147483647)) (i2 : (-2147483648 ≤ x3 ∧ x3 ≤ 2147483647)) (i3 : (a0 = x1)) (i4 : (x2 = px_en b n a0)) (i5 : (x3 = px_kd b n a0)) (i6 : (t.2.1 3 = b)) (i7 : (t.1 2 4 = n)) (i8 : (t.1 2 5 = s.1 2 5)) (i9 : (px_DT b n (s.1 2 5) t)) (hQ48 : ∀ (x1 x2 x3 : Int) (t : sx_S), cx_I t → cx_F [(2, 6)] s t → (0 ≤ x1 ∧ x1 ≤ 239) → (-2147483648 ≤ x2 ∧ x2 ≤ 2147483647) → (-2147483648 ≤ x3 ∧ x3 ≤ 2147483647) → (a0 = x1) → (x2 = px_en b n a0) → (x3 = px_kd b n a0) → (t.2.1 3 = b) → (t.1 2 4 = n) → (t.1 2 5 = s.1 2 5) → (px_DT b n (s.1 2 5) t) → (1 < mm) → Q 48 [(0, .inr (.inl 2)), (1, .inl x1), (2, .inl x2), (3, .inl x3)] t) : sx_wp true sL sx eX8_readToken CALL [(48, [0, 1, 2, 3])] Q R 400 48 [(0, .inr (.inl 2)), (1, .inl x1), (2, .inl x2), (3, .inl x3)] [] t := by
  have hn := hI.fld 2 4 (by decide) rfl
  subst i3
  have zzk := px_kd_r b n a0
  have zzr1 := px_en_ge (b := b) (n := n) (k := a0)
  have zzr2 := px_en_le (b := b) (n := n) (k := a0) (by omega)
  have zzp : sx_w true (s.1 2 5 + 1) = s.1 2 5 + 1 := px_wid (by omega) (by omega)
  have zzq : sx_w true (t.1 2 5 + 1) = s.1 2 5 + 1 := by rw [i8]; exact zzp
  repeat' (first | (with_reducible intro _) | (refine And.intro ?_ ?_) | (refine hK _ _ ?_ ?_ ?_ ?_ ?_ ?_ ?_) | (refine h_dx_signAt _ _ _ ?_ ?_ ?_ ?_ ?_ ?_) | (refine h_dx_isLetter _ _ _ ?_ ?_ ?_) | (refine h_dx_wordEnd _ _ _ ?_ ?_ ?_ ?_ ?_ ?_) | (refine h_dx_wordKind _ _ _ _ ?_ ?_ ?_ ?_ ?_ ?_ ?_) | (refine hQ48 _ _ _ _ ?_ ?_ ?_ ?_ ?_ ?_ ?_ ?_ ?_ ?_ ?_ ?_ ?_))
  all_goals (try dsimp only)
  repeat' (first | (with_reducible assumption) | ((with_reducible (change cx_I (sx_uf _ _ _ _, _))); refine cx_I_uf rfl rfl ?_ ?_ ?_) | ((with_reducible (change cx_I (_, sx_ua _ _ _ _, _))); refine cx_I_ua rfl rfl ?_ ?_ ?_) | ((with_reducible (change cx_I (_, sx_ua _ 16 _ _, _))); refine cx_I_ari ?_ ?_ ?_) | ((with_reducible (change cx_I (sx_uf _ 11 6 _, _))); refine cx_I_ufA rfl ?_ ?_ ?_ ?_) | (with_reducible exact cx_F_refl _ _) | ((with_reducible (change cx_F _ _ (sx_uf _ _ _ _, _))); refine cx_F_uf rfl ?_) | ((with_reducible (change cx_F _ _ (_, sx_ua _ _ _ _, _))); refine cx_F_ua rfl ?_) | ((with_reducible (change cx_I (_, sx_cpy _ _ _ _ _ _, _))); refine cx_I_cpy rfl rfl rfl (by decide) ?_) | ((with_reducible (change cx_F _ _ (_, sx_cpy _ _ _ _ _ _, _))); refine cx_F_cpy rfl ?_) | ((with_reducible (change cx_F _ _ _)); refine cx_F_step (by assumption) rfl ?_) | ((with_reducible (change rf_f _ _ (sx_uf _ 66 _ _, _))); refine rf_f_uf rfl ?_) | ((with_reducible (change rf_f _ _ _)); exact (fun _ _ => rfl)) | ((with_reducible (change rf_f _ _ (_, sx_ua _ _ _ _, _))); refine rf_f_ua ?_) | ((with_reducible (change rf_f _ _ _)); assumption) | ((with_reducible (change rf_f _ _ _)); refine rf_f_step (by assumption) rfl ?_) | ((with_reducible (change rf_f _ _ _)); refine rf_f_F (by assumption) rfl ?_) | ((with_reducible (change px_g1 _ _ _ (_, sx_ua _ _ _ _, _))); refine px_g1_ua rfl (by omega) ?_) | ((with_reducible (change px_g1 _ _ _ _)); exact px_g1_refl _ _ _) | ((with_reducible (change px_g1 _ _ _ _)); assumption) | ((with_reducible (change sx_ua _ _ _ _ _ = _)); refine px_a_ua rfl ?_) | ((with_reducible (change px_RT _ _ _ (sx_uf _ _ _ _, _))); refine px_RT_uf ?_) | ((with_reducible (change px_RT _ _ _ (_, sx_ua _ 69 _ _, _))); refine px_RT_up (by assumption) (by assumption) (by assumption) (by assumption) (by assumption) (by omega) (px_bl_st (by assumption) (by omega)) (by omega)) | ((with_reducible (change px_RT _ _ _ (_, sx_ua _ _ _ _, _))); refine px_RT_ua rfl ?_) | ((with_reducible (change px_RT _ _ 0 _)); exact px_RT_0) | ((with_reducible (change px_RT _ _ _ _)); assumption) | ((with_reducible (change px_RT _ _ _ _)); refine px_RT_F (by assumption) rfl rfl rfl ?_) | ((with_reducible (change px_REx _ _ _)); exact px_REx_mk (by assumption) (by assumption) (by omega) (by omega)) | ((with_reducible (change (_ : sx_S).1 _ _ = _)); refine px_f_F (by assumption) rfl ?_) | ((with_reducible (change (_ : sx_S).2.1 _ = _)); refine px_a_F (by assumption) rfl ?_) | ((with_reducible (change sx_uf _ _ _ _ _ _ = _)); refine px_f_uf rfl ?_) | ((with_reducible (change px_DT _ _ _ (sx_uf _ _ _ _, _))); refine px_DT_uf ?_) | ((with_reducible (change px_DT _ _ _ _)); assumption) | ((with_reducible (change px_DT _ _ _ _)); refine px_DT_F (by assumption) rfl rfl rfl ?_) | fail)
  all_goals (try dsimp only at *)
  all_goals (first | ((with_reducible (change _ = px_kd _ _ _)); first | exact (px_kd_ar (by omega) (by omega)).1.symm | (rw [(px_kd_ar (by omega) (by omega)).1]; assumption) | (rw [(px_kd_ar (by omega) (by omega)).1]; subst_vars; rfl) | (rw [(px_kd_ar (by omega) (by omega)).1]; omega)) | ((with_reducible (change _ = px_kd _ _ _)); first | exact (px_kd_le (by omega) (by omega)).1.symm | (rw [(px_kd_le (by omega) (by omega)).1]; assumption) | (rw [(px_kd_le (by omega) (by omega)).1]; subst_vars; rfl) | (rw [(px_kd_le (by omega) (by omega)).1]; omega)) | ((with_reducible (change _ = px_kd _ _ _)); first | exact (px_kd_sg (by omega) (by omega) (by omega)).1.symm | (rw [(px_kd_sg (by omega) (by omega) (by omega)).1]; assumption) | (rw [(px_kd_sg (by omega) (by omega) (by omega)).1]; subst_vars; rfl) | (rw [(px_kd_sg (by omega) (by omega) (by omega)).1]; omega)) | ((with_reducible (change _ = px_en _ _ _)); (rw [(px_kd_ar (by omega) (by omega)).2]; omega)) | ((with_reducible (change _ = px_en _ _ _)); (rw [(px_kd_le (by omega) (by omega)).2]; omega)) | ((with_reducible (change _ = px_en _ _ _)); (rw [(px_kd_sg (by omega) (by omega) (by omega)).2]; omega)) | ((with_reducible (change px_DT _ _ _ _)); refine px_DT_up (m := s.1 2 5) (by assumption) (by omega) (by assumption) (by assumption) (by assumption) (by omega) (by omega) (by omega) (by rw [sx_uf_if, if_pos ⟨rfl, rfl⟩, sx_w_t]; omega)) | ((with_reducible (change _ = px_kz _ _ _)); (unfold px_kz; split <;> first | omega | (simp only [sx_uf_if, sx_ua_if, sx_w_t, true_and, and_true, and_self, and_false, false_and, if_true, if_false, reduceIte] at *; omega))) | trivial | assumption | rfl | omega | (dsimp only at *; omega) | (simp only [sx_uf_if, sx_ua_if, sx_w_t, true_and, and_true, and_self, and_false, false_and, if_true, if_false, reduceIte] at *; omega) | (subst_vars; omega))

theorem c_dx_readToken {sL : Nat} {sx : Nat → Int32} (hsL : sL ≤ 3072) (d : Nat) (hd : 7 ≤ d) (b : Nat → Int) (n : Int) : ∀ (a0 : Int) (s : sx_S) (K : Int → sx_S → Prop), cx_I s → (0 ≤ a0 ∧ a0 ≤ 239) → (s.2.1 3 = b) → (s.1 2 4 = n) → (a0 < n) → (px_DT b n (s.1 2 5) s) → (px_ps b n (s.1 2 5).toNat = a0) → (0 ≤ s.1 2 5 ∧ s.1 2 5 ≤ 239) → (∀ (z : Int) (t : sx_S), cx_I t → cx_F [(2, 6)] s t → (z = px_kz b n a0) → (t.2.1 3 = b) → (t.1 2 4 = n) → (t.1 2 5 = s.1 2 5 + 1) → (px_DT b n (t.1 2 5) t) → K z t) → sx_C sL sx d 106 [.inr (.inl 2), .inl a0] s K := by
  intro a0 s K hI p0 p1 p2 p3 p4 p5 p6 hK
  obtain ⟨d, rfl⟩ : ∃ e, d = e + 2 := ⟨d - 2, by omega⟩
  refine sx_methL (wr := true) (n := 400) (n' := 400) (stop := [(48, [0, 1, 2, 3])]) (fun nn pc ls u => (pc = 48 ∧ ∃ (x1 x2 x3 : Int), ls = [(0, .inr (.inl 2)), (1, .inl x1), (2, .inl x2), (3, .inl x3)] ∧ cx_I u ∧ cx_F [(2, 6)] s u ∧ (0 ≤ x1 ∧ x1 ≤ 239) ∧ (-2147483648 ≤ x2 ∧ x2 ≤ 2147483647) ∧ (-2147483648 ≤ x3 ∧ x3 ≤ 2147483647) ∧ (a0 = x1) ∧ (x2 = px_en b n a0) ∧ (x3 = px_kd b n a0) ∧ (u.2.1 3 = b) ∧ (u.1 2 4 = n) ∧ (u.1 2 5 = s.1 2 5) ∧ (px_DT b n (s.1 2 5) u) ∧ nn = 1)) hsL (e := eX8_readToken) rfl ?_ ?_
  · exact w_dx_readToken (c_dx_signAt hsL (d + 1) (by omega) b n) (c_dx_isLetter hsL (d + 1) (by omega)) (c_dx_wordEnd hsL (d + 1) (by omega) b n) (c_dx_wordKind hsL (d + 1) (by omega) b n) hI p0 p1 p2 p3 p4 p5 p6 hK (fun x1 x2 x3 u j1 j2 i0 i1 i2 i3 i4 i5 i6 i7 i8 i9 => ⟨_, ⟨rfl, x1, x2, x3, rfl, j1, j2, i0, i1, i2, i3, i4, i5, i6, i7, i8, i9, rfl⟩⟩)
  · rintro nn pc ls u (⟨rfl, x1, x2, x3, rfl, j1, j2, i0, i1, i2, i3, i4, i5, i6, i7, i8, i9, rfl⟩)
    · exact w_dx_readToken_48 (c_dx_signAt hsL (d + 1) (by omega) b n) (c_dx_isLetter hsL (d + 1) (by omega)) (c_dx_wordEnd hsL (d + 1) (by omega) b n) (c_dx_wordKind hsL (d + 1) (by omega) b n) hI p0 p1 p2 p3 p4 p5 p6 hK j1 j2 rfl i0 i1 i2 i3 i4 i5 i6 i7 i8 i9 (fun x1 x2 x3 u j1 j2 i0 i1 i2 i3 i4 i5 i6 i7 i8 i9 hm => ⟨_, hm, ⟨rfl, x1, x2, x3, rfl, j1, j2, i0, i1, i2, i3, i4, i5, i6, i7, i8, i9, rfl⟩⟩)
end
section
/-! ===== the desk's grammar, exactly: taking tokens ===== -/
/-- the desk holds the tokens of the text -/
def px_TK (b : Nat → Int) (n : Int) (s : sx_S) : Prop := px_DE b n (s.1 2 5) s
theorem px_TK_uf {b : Nat → Int} {n : Int} {F : Nat → Nat → Int} {B : (Nat → Nat → Int) × (Nat → Nat → Int) × Nat} {p k : Nat} {v : Int} (hp : Nat.beq 2 p = false) (h : px_TK b n (F, B)) : px_TK b n (sx_uf F p k v, B) := by
  have e : sx_uf F p k v 2 5 = F 2 5 := by
    rw [sx_uf_if, if_neg]
    rintro ⟨q, _⟩
    rw [q] at hp
    simp at hp
  show px_DE b n (sx_uf F p k v 2 5) (sx_uf F p k v, B)
  rw [e]
  exact h
theorem px_TK_F {V : List (Nat × Nat)} {b : Nat → Int} {n : Int} {s t : sx_S} (hF : cx_F V s t) (h2 : cx_outb V 2 = true) (h4 : cx_outb V 4 = true) (h5 : cx_outb V 5 = true) (h6 : cx_outb V 6 = true) (h : px_TK b n s) : px_TK b n t := by
  have e : t.1 2 5 = s.1 2 5 := by rw [(hF.same 2 h2).1]
  intro _
  rw [e]
  obtain ⟨a1, a2, a3⟩ := h trivial
  exact ⟨a1, px_DT_F hF h4 h5 h6 a2, a3⟩
theorem px_TK_kd {b : Nat → Int} {n i : Int} {s : sx_S} (h : px_TK b n s) (h0 : 0 ≤ i) (hl : px_lv b n i.toNat) : (i < s.1 2 5 → s.2.1 4 i.toNat = px_K b n i.toNat) ∧ (s.1 2 5 ≤ i → px_K b n i.toNat = 0) ∧ i ≤ s.1 2 5 := by
  obtain ⟨a1, a2, a3⟩ := h trivial
  have hi : i ≤ s.1 2 5 := by
    rcases Int.lt_or_le (s.1 2 5) i with q | q
    · rcases a3 with ⟨b1, b2⟩ | ⟨b1, b2, b3⟩
      · exact absurd b2 (hl _ (by omega)).1
      · exact absurd b3 (hl _ (by omega)).2
    · exact q
  refine ⟨fun q => (a2 i.toNat (by omega)).1, fun q => ?_, hi⟩
  have e : i = s.1 2 5 := by omega
  rcases a3 with ⟨b1, b2⟩ | ⟨b1, b2, b3⟩
  · rw [e]
    exact b2
  · exact absurd b3 (hl _ (by omega)).2
theorem px_K_r (b : Nat → Int) (n : Int) (i : Nat) : 0 ≤ px_K b n i ∧ px_K b n i ≤ 15 := px_kd_r b n _

theorem w_dx_kind {CALL : sx_Ca} {b : Nat → Int} {n : Int} {sL : Nat} {sx : Nat → Int32} {Q : Nat → sx_L → sx_S → Prop} {R : Int → sx_S → Prop} {s : sx_S} {t0 : Int} (hI : cx_I s) (p0 : (0 ≤ t0 ∧ t0 ≤ 1000)) (p1 : (px_TK b n s)) (p2 : (px_lv b n t0.toNat)) (hK : ∀ z : Int, (z = px_K b n t0.toNat) → R z s) : sx_wp true sL sx eX8_kind CALL [] Q R 400 0 (sx_argsF 0 [.inr (.inl 2), .inl t0]) [] s := by
  have zzk := px_TK_kd p1 p0.1 p2
  have zzt := p1 trivial
  repeat' (first | (with_reducible (rintro _ rfl)) | (with_reducible intro _) | (refine And.intro ?_ ?_) | (refine hK _ ?_))
  all_goals (try dsimp only)
  repeat' (first | (with_reducible assumption) | ((with_reducible (change cx_I (sx_uf _ _ _ _, _))); refine cx_I_uf rfl rfl ?_ ?_ ?_) | ((with_reducible (change cx_I (_, sx_ua _ _ _ _, _))); refine cx_I_ua rfl rfl ?_ ?_ ?_) | ((with_reducible (change cx_I (_, sx_ua _ 16 _ _, _))); refine cx_I_ari ?_ ?_ ?_) | ((with_reducible (change cx_I (sx_uf _ 11 6 _, _))); refine cx_I_ufA rfl ?_ ?_ ?_ ?_) | (with_reducible exact cx_F_refl _ _) | ((with_reducible (change cx_F _ _ (sx_uf _ _ _ _, _))); refine cx_F_uf rfl ?_) | ((with_reducible (change cx_F _ _ (_, sx_ua _ _ _ _, _))); refine cx_F_ua rfl ?_) | ((with_reducible (change cx_I (_, sx_cpy _ _ _ _ _ _, _))); refine cx_I_cpy rfl rfl rfl (by decide) ?_) | ((with_reducible (change cx_F _ _ (_, sx_cpy _ _ _ _ _ _, _))); refine cx_F_cpy rfl ?_) | ((with_reducible (change cx_F _ _ _)); refine cx_F_step (by assumption) rfl ?_) | ((with_reducible (change rf_f _ _ (sx_uf _ 66 _ _, _))); refine rf_f_uf rfl ?_) | ((with_reducible (change rf_f _ _ _)); exact (fun _ _ => rfl)) | ((with_reducible (change rf_f _ _ (_, sx_ua _ _ _ _, _))); refine rf_f_ua ?_) | ((with_reducible (change rf_f _ _ _)); assumption) | ((with_reducible (change rf_f _ _ _)); refine rf_f_step (by assumption) rfl ?_) | ((with_reducible (change rf_f _ _ _)); refine rf_f_F (by assumption) rfl ?_) | ((with_reducible (change px_g1 _ _ _ (_, sx_ua _ _ _ _, _))); refine px_g1_ua rfl (by omega) ?_) | ((with_reducible (change px_g1 _ _ _ _)); exact px_g1_refl _ _ _) | ((with_reducible (change px_g1 _ _ _ _)); assumption) | ((with_reducible (change sx_ua _ _ _ _ _ = _)); refine px_a_ua rfl ?_) | ((with_reducible (change px_RT _ _ _ (sx_uf _ _ _ _, _))); refine px_RT_uf ?_) | ((with_reducible (change px_RT _ _ _ (_, sx_ua _ 69 _ _, _))); refine px_RT_up (by assumption) (by assumption) (by assumption) (by assumption) (by assumption) (by omega) (px_bl_st (by assumption) (by omega)) (by omega)) | ((with_reducible (change px_RT _ _ _ (_, sx_ua _ _ _ _, _))); refine px_RT_ua rfl ?_) | ((with_reducible (change px_RT _ _ 0 _)); exact px_RT_0) | ((with_reducible (change px_RT _ _ _ _)); assumption) | ((with_reducible (change px_RT _ _ _ _)); refine px_RT_F (by assumption) rfl rfl rfl ?_) | ((with_reducible (change px_REx _ _ _)); exact px_REx_mk (by assumption) (by assumption) (by omega) (by omega)) | ((with_reducible (change (_ : sx_S).1 _ _ = _)); refine px_f_F (by assumption) rfl ?_) | ((with_reducible (change (_ : sx_S).2.1 _ = _)); refine px_a_F (by assumption) rfl ?_) | ((with_reducible (change sx_uf _ _ _ _ _ _ = _)); refine px_f_uf rfl ?_) | ((with_reducible (change px_DT _ _ _ (sx_uf _ _ _ _, _))); refine px_DT_uf ?_) | ((with_reducible (change px_DT _ _ _ _)); assumption) | ((with_reducible (change px_DT _ _ _ _)); refine px_DT_F (by assumption) rfl rfl rfl ?_) | ((with_reducible (change px_TK _ _ (sx_uf _ _ _ _, _))); refine px_TK_uf rfl ?_) | ((with_reducible (change px_TK _ _ _)); assumption) | ((with_reducible (change px_TK _ _ _)); refine px_TK_F (by assumption) rfl rfl rfl rfl ?_) | fail)
  all_goals (try dsimp only at *)
  all_goals (first | ((with_reducible (change px_lv _ _ _)); first | assumption | exact px_lv_up (x := s.1 7 1) (by assumption) (by omega) (by omega) (by omega)) | trivial | assumption | rfl | omega | (dsimp only at *; omega) | (simp only [sx_uf_if, sx_ua_if, sx_w_t, true_and, and_true, and_self, and_false, false_and, if_true, if_false, reduceIte] at *; omega) | (simp only [sx_uf_if, sx_ua_if, sx_w_t, true_and, and_true, and_self, and_false, false_and, if_true, if_false, reduceIte] at *; exact px_lv_up (x := s.1 7 1) (by assumption) (by omega) (by omega) (by omega)))

theorem c_dx_kind {sL : Nat} {sx : Nat → Int32} (hsL : sL ≤ 3072) (d : Nat) (hd : 2 ≤ d) (b : Nat → Int) (n : Int) : ∀ (t0 : Int) (s : sx_S) (K : Int → sx_S → Prop), cx_I s → (0 ≤ t0 ∧ t0 ≤ 1000) → (px_TK b n s) → (px_lv b n t0.toNat) → (∀ z : Int, (z = px_K b n t0.toNat) → K z s) → sx_C sL sx d 101 [.inr (.inl 2), .inl t0] s K := by
  intro t0 s K hI p0 p1 p2 hK
  obtain ⟨d, rfl⟩ : ∃ e, d = e + 2 := ⟨d - 2, by omega⟩
  exact sx_meth (wr := true) (n := 400) hsL (e := eX8_kind) rfl (w_dx_kind (Q := fun _ _ _ => False)  hI p0 p1 p2 hK)
end
section
/-! ===== the desk's grammar, exactly: taking tokens, the state behind ===== -/
theorem w_dx_tk {CALL : sx_Ca} {b : Nat → Int} {n : Int} {sL : Nat} {sx : Nat → Int32} {Q : Nat → sx_L → sx_S → Prop} {R : Int → sx_S → Prop} (h_dx_kind : ∀ (t0 : Int) (s : sx_S) (K : Int → sx_S → Prop), cx_I s → (0 ≤ t0 ∧ t0 ≤ 1000) → (px_TK b n s) → (px_lv b n t0.toNat) → (∀ z : Int, (z = px_K b n t0.toNat) → K z s) → CALL 101 [.inr (.inl 2), .inl t0] s K) {s : sx_S} {k : Int} (hI : cx_I s) (p0 : (2 ≤ k ∧ k ≤ 15)) (p1 : (px_TK b n s)) (p2 : (0 ≤ s.1 7 1)) (p3 : (px_lv b n (s.1 7 1).toNat)) (hK1 : px_K b n (s.1 7 1).toNat = k → R 1 (sx_uf s.1 7 1 (sx_w true (s.1 7 1 + 1)), s.2)) (hK0 : px_K b n (s.1 7 1).toNat ≠ k → R 0 s) : sx_wp true sL sx eX2_takes CALL [] Q R 400 0 (sx_argsF 0 [.inr (.inl 7), .inl k]) [] s := by
  have zzk := px_TK_kd p1 p2 p3
  have zzt := (p1 trivial).1
  have zzr := px_K_r b n (s.1 7 1).toNat
  repeat' (first | (with_reducible (rintro _ rfl)) | (with_reducible intro _) | (refine And.intro ?_ ?_) | (refine hK1 ?_) | (refine hK0 ?_) | (refine h_dx_kind _ _ _ ?_ ?_ ?_ ?_ ?_))
  all_goals (try dsimp only)
  repeat' (first | (with_reducible assumption) | ((with_reducible (change cx_I (sx_uf _ _ _ _, _))); refine cx_I_uf rfl rfl ?_ ?_ ?_) | ((with_reducible (change cx_I (_, sx_ua _ _ _ _, _))); refine cx_I_ua rfl rfl ?_ ?_ ?_) | ((with_reducible (change cx_I (_, sx_ua _ 16 _ _, _))); refine cx_I_ari ?_ ?_ ?_) | ((with_reducible (change cx_I (sx_uf _ 11 6 _, _))); refine cx_I_ufA rfl ?_ ?_ ?_ ?_) | (with_reducible exact cx_F_refl _ _) | ((with_reducible (change cx_F _ _ (sx_uf _ _ _ _, _))); refine cx_F_uf rfl ?_) | ((with_reducible (change cx_F _ _ (_, sx_ua _ _ _ _, _))); refine cx_F_ua rfl ?_) | ((with_reducible (change cx_I (_, sx_cpy _ _ _ _ _ _, _))); refine cx_I_cpy rfl rfl rfl (by decide) ?_) | ((with_reducible (change cx_F _ _ (_, sx_cpy _ _ _ _ _ _, _))); refine cx_F_cpy rfl ?_) | ((with_reducible (change cx_F _ _ _)); refine cx_F_step (by assumption) rfl ?_) | ((with_reducible (change rf_f _ _ (sx_uf _ 66 _ _, _))); refine rf_f_uf rfl ?_) | ((with_reducible (change rf_f _ _ _)); exact (fun _ _ => rfl)) | ((with_reducible (change rf_f _ _ (_, sx_ua _ _ _ _, _))); refine rf_f_ua ?_) | ((with_reducible (change rf_f _ _ _)); assumption) | ((with_reducible (change rf_f _ _ _)); refine rf_f_step (by assumption) rfl ?_) | ((with_reducible (change rf_f _ _ _)); refine rf_f_F (by assumption) rfl ?_) | ((with_reducible (change px_g1 _ _ _ (_, sx_ua _ _ _ _, _))); refine px_g1_ua rfl (by omega) ?_) | ((with_reducible (change px_g1 _ _ _ _)); exact px_g1_refl _ _ _) | ((with_reducible (change px_g1 _ _ _ _)); assumption) | ((with_reducible (change sx_ua _ _ _ _ _ = _)); refine px_a_ua rfl ?_) | ((with_reducible (change px_RT _ _ _ (sx_uf _ _ _ _, _))); refine px_RT_uf ?_) | ((with_reducible (change px_RT _ _ _ (_, sx_ua _ 69 _ _, _))); refine px_RT_up (by assumption) (by assumption) (by assumption) (by assumption) (by assumption) (by omega) (px_bl_st (by assumption) (by omega)) (by omega)) | ((with_reducible (change px_RT _ _ _ (_, sx_ua _ _ _ _, _))); refine px_RT_ua rfl ?_) | ((with_reducible (change px_RT _ _ 0 _)); exact px_RT_0) | ((with_reducible (change px_RT _ _ _ _)); assumption) | ((with_reducible (change px_RT _ _ _ _)); refine px_RT_F (by assumption) rfl rfl rfl ?_) | ((with_reducible (change px_REx _ _ _)); exact px_REx_mk (by assumption) (by assumption) (by omega) (by omega)) | ((with_reducible (change (_ : sx_S).1 _ _ = _)); refine px_f_F (by assumption) rfl ?_) | ((with_reducible (change (_ : sx_S).2.1 _ = _)); refine px_a_F (by assumption) rfl ?_) | ((with_reducible (change sx_uf _ _ _ _ _ _ = _)); refine px_f_uf rfl ?_) | ((with_reducible (change px_DT _ _ _ (sx_uf _ _ _ _, _))); refine px_DT_uf ?_) | ((with_reducible (change px_DT _ _ _ _)); assumption) | ((with_reducible (change px_DT _ _ _ _)); refine px_DT_F (by assumption) rfl rfl rfl ?_) | ((with_reducible (change px_TK _ _ (sx_uf _ _ _ _, _))); refine px_TK_uf rfl ?_) | ((with_reducible (change px_TK _ _ _)); assumption) | ((with_reducible (change px_TK _ _ _)); refine px_TK_F (by assumption) rfl rfl rfl rfl ?_) | fail)
  all_goals (try dsimp only at *)
  all_goals (first | ((with_reducible (change px_lv _ _ _)); first | assumption | exact px_lv_up (x := s.1 7 1) (by assumption) (by omega) (by omega) (by omega)) | trivial | assumption | rfl | omega | (dsimp only at *; omega) | (simp only [sx_uf_if, sx_ua_if, sx_w_t, true_and, and_true, and_self, and_false, false_and, if_true, if_false, reduceIte] at *; omega) | (simp only [sx_uf_if, sx_ua_if, sx_w_t, true_and, and_true, and_self, and_false, false_and, if_true, if_false, reduceIte] at *; exact px_lv_up (x := s.1 7 1) (by assumption) (by omega) (by omega) (by omega)))


/-- takes: the state behind it, exactly -/
theorem c_dx_tk {sL : Nat} {sx : Nat → Int32} (hsL : sL ≤ 3072) (d : Nat) (hd : 3 ≤ d) (b : Nat → Int) (n : Int) : ∀ (k : Int) (s : sx_S) (K : Int → sx_S → Prop), cx_I s → (2 ≤ k ∧ k ≤ 15) → (px_TK b n s) → (0 ≤ s.1 7 1) → (px_lv b n (s.1 7 1).toNat) → (px_K b n (s.1 7 1).toNat = k → K 1 (sx_uf s.1 7 1 (s.1 7 1 + 1), s.2)) → (px_K b n (s.1 7 1).toNat ≠ k → K 0 s) → sx_C sL sx d 37 [.inr (.inl 7), .inl k] s K := by
  intro k s K hI p0 p1 p2 p3 hK1 hK0
  obtain ⟨d, rfl⟩ : ∃ e, d = e + 2 := ⟨d - 2, by omega⟩
  have zzk := px_TK_kd p1 p2 p3
  have zzt := (p1 trivial).1
  have zzw : sx_w true (s.1 7 1 + 1) = s.1 7 1 + 1 := px_wid (by omega) (by omega)
  rw [← zzw] at hK1
  exact sx_meth (wr := true) (n := 400) hsL (e := eX2_takes) rfl (w_dx_tk (Q := fun _ _ _ => False) (c_dx_kind hsL (d + 1) (by omega) b n) hI p0 p1 p2 p3 hK1 hK0)
/-- and what holds there -/
theorem px_tk_at {b : Nat → Int} {n : Int} {s : sx_S} (hI : cx_I s) (h : px_TK b n s) (h0 : 0 ≤ s.1 7 1) (hl : px_lv b n (s.1 7 1).toNat) (hk : px_K b n (s.1 7 1).toNat ≠ 0 ∧ px_K b n (s.1 7 1).toNat ≠ 1) : cx_I (sx_uf s.1 7 1 (s.1 7 1 + 1), s.2) ∧ px_TK b n (sx_uf s.1 7 1 (s.1 7 1 + 1), s.2) ∧ px_lv b n (s.1 7 1 + 1).toNat := by
  have zzk := px_TK_kd h h0 hl
  have zzt := (h trivial).1
  refine ⟨cx_I_uf rfl rfl hI (by omega) (by omega), px_TK_uf rfl h, px_lv_up hl h0 hk rfl⟩
end
section
/-! ===== the desk's grammar, exactly: atoms, types ===== -/
theorem px_uu (F : Nat → Nat → Int) (p k : Nat) (v w : Int) : sx_uf (sx_uf F p k v) p k w = sx_uf F p k w := by
  funext p' k'
  simp only [sx_uf_if]
  split <;> rfl
theorem px_ui {F : Nat → Nat → Int} {p k : Nat} {v : Int} (h : v = F p k) : sx_uf F p k v = F := by
  funext p' k'
  rw [sx_uf_if]
  split
  · rename_i q
    rw [q.1, q.2]
    exact h
  · rfl
theorem px_us (F : Nat → Nat → Int) (p k : Nat) (v : Int) : sx_uf F p k v p k = v := by
  rw [sx_uf_if, if_pos ⟨rfl, rfl⟩]
/-- an ATOM, what is in it of depth below f -/
def px_AM (K : Nat → Int) (f : Nat) (a : Int) (y : qx_T) (e : Int) : Prop := (K a.toNat = 6 ∧ y = qx_o ∧ e = a + 1) ∨ (K a.toNat = 7 ∧ y = qx_i ∧ e = a + 1) ∨ (K a.toNat = 9 ∧ ∃ g, px_TY K f (a + 1) y g ∧ K g.toNat = 10 ∧ e = g + 1)
theorem px_cI {b : Nat → Int} {n c : Int} {s : sx_S} (hI : cx_I s) (h : px_TK b n s) (h0 : 0 ≤ c) (hl : px_lv b n c.toNat) : cx_I (sx_uf s.1 7 1 c, s.2) := by
  have zzk := px_TK_kd h h0 hl
  have zzt := (h trivial).1
  exact cx_I_uf rfl rfl hI (by omega) (by omega)
theorem px_am_k {K : Nat → Int} {f : Nat} {a c : Int} {x : qx_T} (h9 : K a.toNat = 9) (ht : px_TY K f (a + 1) x c) (hk : K c.toNat ≠ 10) : ∀ y e, ¬ px_AM K f a y e := by
  rintro y e (⟨q, _⟩ | ⟨q, _⟩ | ⟨_, g, q1, q2, _⟩)
  · omega
  · omega
  · obtain ⟨_, rfl⟩ := px_TY_fun ht q1
    exact hk q2
theorem px_am_t {K : Nat → Int} {f : Nat} {a : Int} (h9 : K a.toNat = 9) (ht : ∀ x c, ¬ px_TY K f (a + 1) x c) : ∀ y e, ¬ px_AM K f a y e := by
  rintro y e (⟨q, _⟩ | ⟨q, _⟩ | ⟨_, g, q1, _⟩)
  · omega
  · omega
  · exact ht _ _ q1
theorem px_am_n {K : Nat → Int} {f : Nat} {a : Int} (h6 : K a.toNat ≠ 6) (h7 : K a.toNat ≠ 7) (h9 : K a.toNat ≠ 9) : ∀ y e, ¬ px_AM K f a y e := by
  rintro y e (⟨q, _⟩ | ⟨q, _⟩ | ⟨q, _⟩)
  · exact h6 q
  · exact h7 q
  · exact h9 q
theorem px_TY_it {K : Nat → Int} {f : Nat} {a : Int} {x : qx_T} {c : Int} : px_TY K (f + 1) a x c ↔ ∃ y e, px_AM K f a y e ∧ ((K e.toNat = 8 ∧ ∃ w, px_TY K f (e + 1) w c ∧ x = qx_a y w) ∨ (K e.toNat ≠ 8 ∧ x = y ∧ c = e)) := Iff.rfl

theorem w_dg_atom {CALL : sx_Ca} {b : Nat → Int} {n : Int} {g : Nat} {sL : Nat} {sx : Nat → Int32} {Q : Nat → sx_L → sx_S → Prop} {R : Int → sx_S → Prop} (h_tk : ∀ (k : Int) (s : sx_S) (K : Int → sx_S → Prop), cx_I s → (2 ≤ k ∧ k ≤ 15) → (px_TK b n s) → (0 ≤ s.1 7 1) → (px_lv b n (s.1 7 1).toNat) → (px_K b n (s.1 7 1).toNat = k → K 1 (sx_uf s.1 7 1 (s.1 7 1 + 1), s.2)) → (px_K b n (s.1 7 1).toNat ≠ k → K 0 s) → CALL 37 [.inr (.inl 7), .inl k] s K) (h_ty : ∀ (a0 : Int) (s : sx_S) (K : Int → sx_S → Prop), cx_I s → a0 = 21 - (g : Int) → (px_TK b n s) → (0 ≤ s.1 7 1) → (px_lv b n (s.1 7 1).toNat) → (∀ x c, px_TY (px_K b n) g (s.1 7 1) x c → 0 ≤ c → px_lv b n c.toNat → K 1 (sx_uf s.1 7 1 c, s.2)) → ((∀ x c, ¬ px_TY (px_K b n) g (s.1 7 1) x c) → ∀ c, 0 ≤ c → px_lv b n c.toNat → K 0 (sx_uf s.1 7 1 c, s.2)) → CALL 39 [.inr (.inl 7), .inl a0] s K) {s : sx_S} {a0 : Int} (hI : cx_I s) (p0 : a0 = 20 - (g : Int)) (pg : g ≤ 20) (p1 : px_TK b n s) (p2 : 0 ≤ s.1 7 1) (p3 : px_lv b n (s.1 7 1).toNat) (hK1 : ∀ x c, px_AM (px_K b n) g (s.1 7 1) x c → 0 ≤ c → px_lv b n c.toNat → R 1 (sx_uf s.1 7 1 c, s.2)) (hK0 : (∀ x c, ¬ px_AM (px_K b n) g (s.1 7 1) x c) → ∀ c, 0 ≤ c → px_lv b n c.toNat → R 0 (sx_uf s.1 7 1 c, s.2)) : sx_wp true sL sx eX2_atom CALL [] Q R 400 0 (sx_argsF 0 [.inr (.inl 7), .inl a0]) [] s := by
  have zzq : sx_w true (a0 + 1) = 21 - (g : Int) := by rw [px_wid (by omega) (by omega)]; omega
  repeat' (first | (with_reducible (rintro _ rfl)) | (with_reducible intro _) | (refine And.intro ?_ ?_) | (refine h_tk _ _ _ ?_ ?_ ?_ ?_ ?_ ?_ ?_) | (refine h_ty _ _ _ ?_ ?_ ?_ ?_ ?_ ?_ ?_))
  all_goals (try dsimp only at *)
  all_goals (try simp only [px_us, px_uu] at *)
  all_goals (first | trivial | assumption | omega | (exact hK1 _ _ (Or.inl ⟨by assumption, rfl, rfl⟩) (by omega) (px_lv_up p3 p2 (by omega) rfl)) | (exact hK1 _ _ (Or.inr (Or.inl ⟨by assumption, rfl, rfl⟩)) (by omega) (px_lv_up p3 p2 (by omega) rfl)) | (exact (px_tk_at hI p1 p2 p3 (by omega)).1) | (exact px_lv_up p3 p2 (by omega) rfl) | (exact px_cI hI p1 (by assumption) (by assumption)) | (exact hK1 _ _ (Or.inr (Or.inr ⟨by assumption, _, by assumption, by assumption, rfl⟩)) (by omega) (px_lv_up (by assumption) (by assumption) (by omega) rfl)) | (exact hK0 (px_am_k (by assumption) (by assumption) (by assumption)) _ (by assumption) (by assumption)) | (exact hK0 (px_am_t (by assumption) (by assumption)) _ (by assumption) (by assumption)) | (have zz9 := hK0 (px_am_n (by assumption) (by assumption) (by assumption)) (s.1 7 1) p2 p3; rw [px_ui rfl] at zz9; exact zz9) | skip)
end
