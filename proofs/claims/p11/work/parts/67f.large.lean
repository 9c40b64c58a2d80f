/-! ===== TYPEs of too many atoms, by a scan of the tokens ===== -/
def px_nx (K : Nat → Int) (a : Int) (n : Nat) : Nat := (if K a.toNat = 6 ∨ K a.toNat = 7 then 1 else 0) + (if K a.toNat = 12 then 0 else n)
def px_S (K : Nat → Int) : Nat → Int → Nat → Nat → Prop
  | 0, _, n, m => n = m
  | k + 1, a, n, m => K a.toNat ≠ 14 ∧ px_nx K a n ≤ 5 ∧ px_S K k (a + 1) (px_nx K a n) m
def px_X (K : Nat → Int) : Nat → Int → Nat → Prop
  | 0, _, _ => False
  | k + 1, a, n => K a.toNat ≠ 14 ∧ (5 < px_nx K a n ∨ (px_nx K a n ≤ 5 ∧ px_X K k (a + 1) (px_nx K a n)))
theorem px_S_t {K : Nat → Int} {k2 : Nat} {m r : Nat} : ∀ {k1 : Nat} {a : Int} {n : Nat}, px_S K k1 a n m → px_S K k2 (a + (k1 : Int)) m r → px_S K (k1 + k2) a n r
  | 0, a, n, h1, h2 => by
    have e : n = m := h1
    subst e
    rw [Nat.zero_add]
    have e2 : a + ((0 : Nat) : Int) = a := by omega
    rw [e2] at h2
    exact h2
  | k + 1, a, n, ⟨h1, h2, h3⟩, h4 => by
    rw [show k + 1 + k2 = (k + k2) + 1 by omega]
    refine ⟨h1, h2, px_S_t h3 ?_⟩
    rw [show a + 1 + (k : Int) = a + ((k + 1 : Nat) : Int) by omega]
    exact h4
theorem px_X_r {K : Nat → Int} {k2 : Nat} {m : Nat} : ∀ {k1 : Nat} {a : Int} {n : Nat}, px_S K k1 a n m → px_X K k2 (a + (k1 : Int)) m → px_X K (k1 + k2) a n
  | 0, a, n, h1, h2 => by
    have e : n = m := h1
    subst e
    rw [Nat.zero_add]
    have e2 : a + ((0 : Nat) : Int) = a := by omega
    rw [e2] at h2
    exact h2
  | k + 1, a, n, ⟨h1, h2, h3⟩, h4 => by
    rw [show k + 1 + k2 = (k + k2) + 1 by omega]
    refine ⟨h1, Or.inr ⟨h2, px_X_r h3 ?_⟩⟩
    rw [show a + 1 + (k : Int) = a + ((k + 1 : Nat) : Int) by omega]
    exact h4
theorem px_X_l {K : Nat → Int} (k2 : Nat) : ∀ {k1 : Nat} {a : Int} {n : Nat}, px_X K k1 a n → px_X K (k1 + k2) a n
  | 0, _, _, h => h.elim
  | k + 1, a, n, ⟨h1, h2⟩ => by
    rw [show k + 1 + k2 = (k + k2) + 1 by omega]
    rcases h2 with h2 | ⟨h2, h3⟩
    · exact ⟨h1, Or.inl h2⟩
    · exact ⟨h1, Or.inr ⟨h2, px_X_l k2 h3⟩⟩
/-- by places -/
def px_Sp (K : Nat → Int) (a c : Int) (n m : Nat) : Prop := ∃ k : Nat, c = a + (k : Int) ∧ px_S K k a n m
def px_Xp (K : Nat → Int) (a c : Int) (n : Nat) : Prop := ∃ k : Nat, c = a + (k : Int) ∧ px_X K k a n
theorem px_Sp_t {K : Nat → Int} {a c e : Int} {n m r : Nat} (h1 : px_Sp K a c n m) (h2 : px_Sp K c e m r) : px_Sp K a e n r := by
  obtain ⟨k1, a1, a2⟩ := h1
  obtain ⟨k2, b1, b2⟩ := h2
  subst a1
  exact ⟨k1 + k2, by omega, px_S_t a2 b2⟩
theorem px_Xp_r {K : Nat → Int} {a c e : Int} {n m : Nat} (h1 : px_Sp K a c n m) (h2 : px_Xp K c e m) : px_Xp K a e n := by
  obtain ⟨k1, a1, a2⟩ := h1
  obtain ⟨k2, b1, b2⟩ := h2
  subst a1
  exact ⟨k1 + k2, by omega, px_X_r a2 b2⟩
theorem px_Xp_l {K : Nat → Int} {a c e : Int} {n : Nat} (h1 : px_Xp K a c n) (h2 : c ≤ e) : px_Xp K a e n := by
  obtain ⟨k1, a1, a2⟩ := h1
  exact ⟨k1 + (e - c).toNat, by omega, px_X_l _ a2⟩
theorem px_Sp_1 {K : Nat → Int} {a : Int} {n : Nat} (hn : n ≤ 5) (h6 : K a.toNat ≠ 6) (h7 : K a.toNat ≠ 7) (h12 : K a.toNat ≠ 12) (h14 : K a.toNat ≠ 14) : px_Sp K a (a + 1) n n := by
  have e : px_nx K a n = n := by
    unfold px_nx
    rw [if_neg (by omega), if_neg h12, Nat.zero_add]
  exact ⟨1, by omega, h14, by rw [e]; exact hn, e⟩
theorem px_Sp_12 {K : Nat → Int} {a : Int} {n : Nat} (h : K a.toNat = 12) : px_Sp K a (a + 1) n 0 := by
  have e : px_nx K a n = 0 := by
    unfold px_nx
    rw [if_neg (by omega), if_pos h]
  exact ⟨1, by omega, by omega, by omega, e⟩
theorem px_Sp_a {K : Nat → Int} {a : Int} {n : Nat} (hn : n ≤ 5) (h : K a.toNat = 6 ∨ K a.toNat = 7) : (n + 1 ≤ 5 → px_Sp K a (a + 1) n (n + 1)) ∧ (5 < n + 1 → px_Xp K a (a + 1) n) := by
  have e : px_nx K a n = n + 1 := by
    unfold px_nx
    rw [if_pos h, if_neg (by omega), Nat.add_comm]
  exact ⟨fun q => ⟨1, by omega, by omega, by omega, e⟩, fun q => ⟨1, by omega, by omega, Or.inl (by omega)⟩⟩
theorem px_Sp_TY {K : Nat → Int} : ∀ {f : Nat} {a : Int} {x : qx_T} {c : Int} {n : Nat}, px_TY K f a x c → n ≤ 5 → (n + qx_at x ≤ 5 → px_Sp K a c n (n + qx_at x)) ∧ (5 < n + qx_at x → px_Xp K a c n)
  | 0, _, _, _, _, h, _ => h.elim
  | f + 1, a, x, c, n, h, hn => by
    obtain ⟨y, e, h1, h2⟩ := h
    have hy := qx_at_pos y
    have he : (n + qx_at y ≤ 5 → px_Sp K a e n (n + qx_at y)) ∧ (5 < n + qx_at y → px_Xp K a e n) := by
      rcases h1 with ⟨q1, q2, q3⟩ | ⟨q1, q2, q3⟩ | ⟨q1, g, q2, q3, q4⟩
      · subst q2 q3
        exact px_Sp_a hn (Or.inl q1)
      · subst q2 q3
        exact px_Sp_a hn (Or.inr q1)
      · have ih := px_Sp_TY (n := n) q2 hn
        subst q4
        have s1 : px_Sp K a (a + 1) n n := px_Sp_1 hn (by omega) (by omega) (by omega) (by omega)
        exact ⟨fun q => px_Sp_t s1 (px_Sp_t (ih.1 q) (px_Sp_1 q (by omega) (by omega) (by omega) (by omega))), fun q => px_Xp_l (px_Xp_r s1 (ih.2 q)) (by omega)⟩
    rcases h2 with ⟨q1, w, q2, q3⟩ | ⟨_, q2, q3⟩
    · have hw := qx_at_pos w
      have ex : qx_at x = qx_at y + qx_at w := by rw [q3]; rfl
      have le := px_TY_le q2
      by_cases q : n + qx_at y ≤ 5
      · have s1 : px_Sp K a (e + 1) n (n + qx_at y) := px_Sp_t (he.1 q) (px_Sp_1 q (by omega) (by omega) (by omega) (by omega))
        have ih := px_Sp_TY (n := n + qx_at y) q2 q
        rw [ex, ← Nat.add_assoc]
        exact ⟨fun z => px_Sp_t s1 (ih.1 z), fun z => px_Xp_r s1 (ih.2 z)⟩
      · exact ⟨fun z => by omega, fun _ => px_Xp_l (he.2 (by omega)) (by omega)⟩
    · subst q2 q3
      exact he
theorem px_ls_sn {p : px_N} : ∀ {r : px_N}, px_ls r → px_ls p → px_ls (px_snoc r p)
  | .leaf, _, h => h
  | .inner _ _ _ _ _, ⟨h1, h2, h3⟩, h => ⟨h1, h2, px_ls_sn h3 h⟩
theorem px_Sp_AR {K : Nat → Int} {T : Int → px_N → Int → Prop} (hT2 : ∀ a t e, T a t e → a < e) (hT : ∀ a t e n, T a t e → n ≤ 5 → (px_ls t → ∃ m, m ≤ 5 ∧ px_Sp K a e n m) ∧ (¬ px_ls t → px_Xp K a e n)) : ∀ {g : Nat} {a : Int} {r r' : px_N} {c : Int} {n : Nat}, px_ARg K T g a r r' c → n ≤ 5 → px_ls r → (px_ls r' → ∃ m, m ≤ 5 ∧ px_Sp K a c n m) ∧ (¬ px_ls r' → px_Xp K a c n)
  | 0, _, _, _, _, _, h, _, _ => h.elim
  | g + 1, a, r, r', c, n, h, hn, hr => by
    rcases h with ⟨q0, t, e, q1, q2, q3⟩ | ⟨q0, q⟩ | ⟨_, _, q1, q2⟩
    · have hec := px_ARg_le hT2 q3
      have s1 : px_Sp K a (a + 1) n n := px_Sp_1 hn (by omega) (by omega) (by omega) (by omega)
      obtain ⟨t1, t2⟩ := hT _ _ _ n q1 hn
      by_cases ht : px_ls t
      · obtain ⟨m, m1, m2⟩ := t1 ht
        have s2 : px_Sp K a (e + 1) n m := px_Sp_t s1 (px_Sp_t m2 (px_Sp_1 m1 (by omega) (by omega) (by omega) (by omega)))
        obtain ⟨i1, i2⟩ := px_Sp_AR hT2 hT (n := m) q3 m1 (px_ls_sn hr ht)
        refine ⟨fun z => ?_, fun z => px_Xp_r s2 (i2 z)⟩
        obtain ⟨m', z1, z2⟩ := i1 z
        exact ⟨m', z1, px_Sp_t s2 z2⟩
      · have hX := px_Xp_l (px_Xp_r s1 (t2 ht)) (show e ≤ c by omega)
        refine ⟨fun z => ?_, fun _ => hX⟩
        obtain ⟨q', hq'⟩ := px_AR_sn ⟨g, q3⟩
        rw [hq'] at z
        exact absurd (px_ls_snoc (px_ls_snoc z).1).2 ht
    · have s1 : px_Sp K a (a + 1) n n := px_Sp_1 hn (by omega) (by omega) (by omega) (by omega)
      obtain ⟨i1, i2⟩ := px_Sp_AR hT2 hT (n := n) q hn (px_ls_sn hr ⟨fun z => absurd z (by decide), trivial, trivial⟩)
      refine ⟨fun z => ?_, fun z => px_Xp_r s1 (i2 z)⟩
      obtain ⟨m', z1, z2⟩ := i1 z
      exact ⟨m', z1, px_Sp_t s1 z2⟩
    · subst q1 q2
      exact ⟨fun _ => ⟨n, hn, 0, by omega, rfl⟩, fun z => absurd hr z⟩
theorem px_Sp_TM {K : Nat → Int} : ∀ {f : Nat} {a : Int} {t : px_N} {c : Int} {n : Nat}, px_TM K f a t c → n ≤ 5 → (px_ls t → ∃ m, m ≤ 5 ∧ px_Sp K a c n m) ∧ (¬ px_ls t → px_Xp K a c n)
  | 0, _, _, _, _, h, _ => h.elim
  | f + 1, a, t, c, n, h, hn => by
    rcases h with ⟨q1, q2, q3, y, e, q4, q5, u, q6, q7⟩ | ⟨q1, r, ⟨g, q⟩, q7⟩
    · have l2 := px_TM_le q6
      have e2 : a + 2 = a + 1 + 1 := by omega
      have e3 : a + 3 = a + 1 + 1 + 1 := by omega
      rw [e2] at q3
      rw [e3] at q4
      have s0 : px_Sp K a (a + 1 + 1 + 1) n 0 := px_Sp_t (px_Sp_1 hn (by omega) (by omega) (by omega) (by omega)) (px_Sp_t (px_Sp_1 hn (by omega) (by omega) (by omega) (by omega)) (px_Sp_12 q3))
      have ty := px_Sp_TY (n := 0) q4 (by omega)
      rw [Nat.zero_add] at ty
      subst q7
      by_cases hy : qx_at y ≤ 5
      · have s1 : px_Sp K a (e + 1) n (qx_at y) := px_Sp_t s0 (px_Sp_t (ty.1 hy) (px_Sp_1 hy (by omega) (by omega) (by omega) (by omega)))
        obtain ⟨i1, i2⟩ := px_Sp_TM (n := qx_at y) q6 hy
        refine ⟨fun z => ?_, fun z => px_Xp_r s1 (i2 (fun z' => z ⟨fun _ => hy, z', trivial⟩))⟩
        obtain ⟨m, z1, z2⟩ := i1 z.2.1
        exact ⟨m, z1, px_Sp_t s1 z2⟩
      · exact ⟨fun z => absurd (z.1 rfl) hy, fun _ => px_Xp_l (px_Xp_r s0 (ty.2 (by omega))) (by omega)⟩
    · have s1 : px_Sp K a (a + 1) n n := px_Sp_1 hn (by omega) (by omega) (by omega) (by omega)
      obtain ⟨i1, i2⟩ := px_Sp_AR (T := px_TM K f) (fun _ _ _ q => px_TM_le q) (fun _ _ _ _ h1 h2 => px_Sp_TM h1 h2) (n := n) q hn trivial
      subst q7
      refine ⟨fun z => ?_, fun z => px_Xp_r s1 (i2 (fun z' => z ⟨fun q => absurd q (by decide), z', trivial⟩))⟩
      obtain ⟨m, z1, z2⟩ := i1 z.2.1
      exact ⟨m, z1, px_Sp_t s1 z2⟩

theorem w_lt {CALL : sx_Ca} {sL : Nat} {sx : Nat → Int32} {Q : Nat → sx_L → sx_S → Prop} {R : Int → sx_S → Prop} {s : sx_S} (hI : cx_I s) (hQ : Q 12 [(0, .inr (.inl 18)), (1, .inl (s.1 18 11)), (2, .inl 0), (3, .inl (s.1 18 11))] s) : sx_wp true sL sx eX1_largeType CALL [(12, [0, 1, 2, 3])] Q R 400 0 (sx_argsF 0 [.inr (.inl 18)]) [] s := by
  repeat' (first | (with_reducible (rintro _ rfl)) | (with_reducible intro _) | (refine And.intro ?_ ?_) | (fail))
  all_goals (try dsimp only at *)
  all_goals (first | trivial | assumption | omega | skip)
theorem w_lt_12 {CALL : sx_Ca} {sL : Nat} {sx : Nat → Int32} {Q : Nat → sx_L → sx_S → Prop} {R : Int → sx_S → Prop} {b : Nat → Int} {n : Int} (h_kd : ∀ (t0 : Int) (s : sx_S) (K : Int → sx_S → Prop), cx_I s → (0 ≤ t0 ∧ t0 ≤ 1000) → (px_TK b n s) → (px_lv b n t0.toNat) → (∀ z : Int, (z = px_K b n t0.toNat) → K z s) → CALL 101 [.inr (.inl 2), .inl t0] s K) {s : sx_S} {x1 x2 x3 : Int} (hI : cx_I s) (hT : px_TK b n s) (hl : px_lv b n x3.toNat) (q1 : 0 ≤ x1 ∧ x1 ≤ 240) (q2 : 0 ≤ x2 ∧ x2 ≤ 5) (q3 : 0 ≤ x3 ∧ x3 < 240) (hE : px_K b n x3.toNat = 14 → R (-1) s) (hX : px_K b n x3.toNat ≠ 14 → 5 < (px_nx (px_K b n) x3 x2.toNat : Int) → ∀ z, 0 ≤ z → z ≤ 240 → R z s) (hQ : px_K b n x3.toNat ≠ 14 → (px_nx (px_K b n) x3 x2.toNat : Int) ≤ 5 → ∀ x1', 0 ≤ x1' ∧ x1' ≤ 240 → Q 12 [(0, .inr (.inl 18)), (1, .inl x1'), (2, .inl (px_nx (px_K b n) x3 x2.toNat : Int)), (3, .inl (x3 + 1))] s) : sx_wp true sL sx eX1_largeType CALL [(12, [0, 1, 2, 3])] Q R 400 12 [(0, .inr (.inl 18)), (1, .inl x1), (2, .inl x2), (3, .inl x3)] [] s := by
  have zzy : sx_w true (x3 + 1) = x3 + 1 := px_wid (by omega) (by omega)
  have zz2 : sx_w true (x2 + 1) = x2 + 1 := px_wid (by omega) (by omega)
  have zz0 : sx_w true (0 + 1) = 1 := by rw [px_wid (by omega) (by omega)]; rfl
  have zzr := px_K_r b n x3.toNat
  have zzk : ∀ K : Int → sx_S → Prop, K (px_K b n x3.toNat) s → CALL 101 [.inr (.inl 2), .inl x3] s K := fun K hK => h_kd _ _ _ hI (by omega) hT hl (fun z z1 => by rw [z1]; exact hK)
  generalize hk : px_K b n x3.toNat = k at *
  by_cases k14 : k = 14
  · have hE' := hE k14
    clear hQ hX
    repeat' (first | (with_reducible (rintro _ rfl)) | (with_reducible intro _) | (refine And.intro ?_ ?_) | (refine zzk _ ?_))
    all_goals (try dsimp only at *)
    all_goals (first | trivial | assumption | omega | (exfalso; omega) | skip)
  · have hX' := hX k14
    have hQ' := hQ k14
    have en : (px_nx (px_K b n) x3 x2.toNat : Int) = (if k = 6 ∨ k = 7 then 1 else 0) + (if k = 12 then 0 else x2) := by
      unfold px_nx
      rw [hk]
      by_cases c1 : k = 6 ∨ k = 7 <;> by_cases c2 : k = 12
      · omega
      · rw [if_pos c1, if_neg c2, if_pos c1, if_neg c2]
        omega
      · rw [if_neg c1, if_pos c2, if_neg c1, if_pos c2]
        rfl
      · rw [if_neg c1, if_neg c2, if_neg c1, if_neg c2]
        omega
    rw [en] at hX' hQ'
    clear hE hX hQ en
    rw [← zzy] at hQ'
    by_cases c1 : k = 6 ∨ k = 7
    · have c2 : k ≠ 12 := by omega
      rw [if_pos c1, if_neg c2, show 1 + x2 = x2 + 1 by omega] at hX' hQ'
      rw [← zz2] at hQ'
      repeat' (first | (with_reducible (rintro _ rfl)) | (with_reducible intro _) | (refine And.intro ?_ ?_) | (refine zzk _ ?_))
      all_goals (try dsimp only at *)
      all_goals (first | trivial | assumption | omega | (exfalso; omega) | (refine hX' ?_ _ ?_ ?_ <;> omega) | (refine hQ' ?_ _ ?_ <;> omega) | skip)
    · by_cases c2 : k = 12
      · rw [if_neg c1, if_pos c2, Int.add_zero] at hX' hQ'
        repeat' (first | (with_reducible (rintro _ rfl)) | (with_reducible intro _) | (refine And.intro ?_ ?_) | (refine zzk _ ?_))
        all_goals (try dsimp only at *)
        all_goals (first | trivial | assumption | omega | (exfalso; omega) | (refine hX' ?_ _ ?_ ?_ <;> omega) | (refine hQ' ?_ _ ?_ <;> omega) | skip)
      · rw [if_neg c1, if_neg c2, Int.zero_add] at hX' hQ'
        repeat' (first | (with_reducible (rintro _ rfl)) | (with_reducible intro _) | (refine And.intro ?_ ?_) | (refine zzk _ ?_))
        all_goals (try dsimp only at *)
        all_goals (first | trivial | assumption | omega | (exfalso; omega) | (refine hX' ?_ _ ?_ ?_ <;> omega) | (refine hQ' ?_ _ ?_ <;> omega) | skip)
theorem c_dz_large {sL : Nat} {sx : Nat → Int32} (hsL : sL ≤ 3072) (d : Nat) (hd : 3 ≤ d) (b : Nat → Int) (n : Int) : ∀ (e : Int) (s : sx_S) (R : Int → sx_S → Prop), cx_I s → px_TK b n s → 0 ≤ s.1 18 11 → px_lv b n e.toNat → px_K b n e.toNat = 14 → (∃ m, px_Sp (px_K b n) (s.1 18 11) e 0 m) ∨ px_Xp (px_K b n) (s.1 18 11) e 0 → ((∃ m, px_Sp (px_K b n) (s.1 18 11) e 0 m) → R (-1) s) → (px_Xp (px_K b n) (s.1 18 11) e 0 → ∀ z, 0 ≤ z → z ≤ 240 → R z s) → sx_C sL sx d 24 [.inr (.inl 18)] s R := by
  intro e s R hI hT h0 hl h14 hor k1 k2
  have hm := (hT trivial).1
  have hle : s.1 18 11 ≤ e := by
    rcases hor with ⟨m, k, a, _⟩ | ⟨k, a, _⟩ <;> omega
  have hkd := px_TK_kd hT (show 0 ≤ e by omega) hl
  have hem : e < s.1 2 5 := by
    rcases Int.lt_or_le e (s.1 2 5) with q | q
    · exact q
    · have := hkd.2.1 q
      omega
  obtain ⟨d, rfl⟩ : ∃ e, d = e + 2 := ⟨d - 2, by omega⟩
  refine sx_methL (wr := true) (n := 400) (n' := 400) (stop := [(12, [0, 1, 2, 3])]) (fun nn pc ls u => pc = 12 ∧ u = s ∧ ∃ x1 x2 x3 : Int, ls = [(0, .inr (.inl 18)), (1, .inl x1), (2, .inl x2), (3, .inl x3)] ∧ (0 ≤ x1 ∧ x1 ≤ 240) ∧ (0 ≤ x2 ∧ x2 ≤ 5) ∧ (0 ≤ x3 ∧ x3 ≤ e) ∧ (((∃ m, px_Sp (px_K b n) x3 e x2.toNat m) ∧ R (-1) s) ∨ (px_Xp (px_K b n) x3 e x2.toNat ∧ ∀ z, 0 ≤ z → z ≤ 240 → R z s)) ∧ nn = (e - x3).toNat) hsL (e := eX1_largeType) rfl ?_ ?_
  · refine w_lt hI ⟨_, rfl, rfl, s.1 18 11, 0, s.1 18 11, rfl, by omega, by omega, by omega, ?_, rfl⟩
    rcases hor with h | h
    · exact Or.inl ⟨h, k1 h⟩
    · exact Or.inr ⟨h, k2 h⟩
  · rintro nn pc ls u ⟨rfl, rfl, x1, x2, x3, rfl, i1, i2, i3, i4, rfl⟩
    refine w_lt_12 (c_dx_kind hsL (d + 1) (by omega) b n) hI hT (px_lv_le hl i3.2) i1 i2 (by omega) ?_ ?_ ?_
    · intro q
      rcases i4 with ⟨_, q2⟩ | ⟨⟨k, a1, a2⟩, _⟩
      · exact q2
      · cases k with
        | zero => exact a2.elim
        | succ k => exact absurd q a2.1
    · intro q q2 z hz hz2
      rcases i4 with ⟨⟨m, k, a1, a2⟩, _⟩ | ⟨_, i4⟩
      · cases k with
        | zero =>
          have : x3 = e := by omega
          rw [this] at q
          exact absurd h14 q
        | succ k =>
          have := a2.2.1
          omega
      · exact i4 z hz hz2
    · intro q q2 x1' hx1
      rcases i4 with ⟨⟨m, k, a1, a2⟩, i4⟩ | ⟨⟨k, a1, a2⟩, i4⟩
      · cases k with
        | zero =>
          have : x3 = e := by omega
          rw [this] at q
          exact absurd h14 q
        | succ k =>
          refine ⟨_, ?_, rfl, rfl, x1', _, x3 + 1, rfl, hx1, by omega, by omega, Or.inl ⟨⟨m, k, by omega, by rw [Int.toNat_natCast]; exact a2.2.2⟩, i4⟩, rfl⟩
          omega
      · cases k with
        | zero => exact a2.elim
        | succ k =>
          refine ⟨_, ?_, rfl, rfl, x1', _, x3 + 1, rfl, hx1, by omega, by omega, Or.inr ⟨⟨k, by omega, ?_⟩, i4⟩, rfl⟩
          · omega
          · rw [Int.toNat_natCast]
            rcases a2.2 with a | a
            · omega
            · exact a.2
