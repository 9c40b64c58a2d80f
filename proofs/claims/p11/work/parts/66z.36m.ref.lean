/-! ===== what was read: its tokens, its shape ===== -/
def px_nk (K : Nat → Int) (a c : Int) : Prop := ∀ i : Int, a ≤ i → i < c → K i.toNat ≠ 0 ∧ K i.toNat ≠ 1
theorem px_nk_1 {K : Nat → Int} {a : Int} (h : K a.toNat ≠ 0 ∧ K a.toNat ≠ 1) : px_nk K a (a + 1) := fun i h1 h2 => by
  have : i = a := by omega
  rw [this]
  exact h
theorem px_nk_t {K : Nat → Int} {a c e : Int} (h1 : px_nk K a c) (h2 : px_nk K c e) : px_nk K a e := fun i a1 a2 => by
  by_cases q : i < c
  · exact h1 i a1 q
  · exact h2 i (by omega) a2
theorem px_TY_k {K : Nat → Int} : ∀ {f : Nat} {a : Int} {x : qx_T} {c : Int}, px_TY K f a x c → px_nk K a c
  | 0, _, _, _, h => h.elim
  | f + 1, a, x, c, h => by
    obtain ⟨y, e, h1, h2⟩ := h
    have he : px_nk K a e := by
      rcases h1 with ⟨q0, _, q⟩ | ⟨q0, _, q⟩ | ⟨q0, g, q1, q2, q⟩
      · subst q
        exact px_nk_1 (by omega)
      · subst q
        exact px_nk_1 (by omega)
      · subst q
        exact px_nk_t (px_nk_1 (by omega)) (px_nk_t (px_TY_k q1) (px_nk_1 (by omega)))
    rcases h2 with ⟨q0, w, q, _⟩ | ⟨_, _, q⟩
    · exact px_nk_t he (px_nk_t (px_nk_1 (by omega)) (px_TY_k q))
    · subst q
      exact he
theorem px_sh_snoc {p : px_N} : ∀ {n : px_N}, (px_sh n).2 → (px_sh p).2 → (px_sh (px_snoc n p)).2
  | .leaf, _, h => h
  | .inner _ _ _ _ _, h, g => ⟨h.1, px_sh_snoc h.2 g⟩
theorem px_hh_snoc (p : px_N) : ∀ n : px_N, (px_hh (px_snoc n p)).2 = max (px_hh n).2 (px_hh p).2
  | .leaf => (Nat.zero_max _).symm
  | .inner j k _ f x => by
    have := px_hh_snoc p x
    show max _ (px_hh (px_snoc x p)).2 = max (max _ (px_hh x).2) _
    rw [this, Nat.max_assoc]
theorem px_tb_sn {m : Int} {p : px_N} : ∀ {n : px_N}, px_tb m n → px_tb m p → px_tb m (px_snoc n p)
  | .leaf, _, h => h
  | .inner _ _ _ _ _, h, g => ⟨h.1, h.2.1, px_tb_sn h.2.2 g⟩
/-- a TERM that was read: shape, height, tokens; it stands alone -/
def px_rd (m : Int) (f : Nat) (t : px_N) : Prop := (px_sh t).1 ∧ (px_sh t).2 ∧ (px_hh t).1 ≤ f + 1 ∧ (px_hh t).2 ≤ f + 1 ∧ px_tb m t
theorem px_ARg_k {K : Nat → Int} {m : Int} {f : Nat} {T : Int → px_N → Int → Prop} (hT : ∀ a t e, T a t e → 0 ≤ a → e ≤ m → px_nk K a e ∧ px_rd m f t) (hT2 : ∀ a t e, T a t e → a < e) : ∀ {g : Nat} {a : Int} {r r' : px_N} {c : Int}, px_ARg K T g a r r' c → 0 ≤ a → c ≤ m → ((px_sh r).2 ∧ (px_hh r).2 ≤ f + 1 ∧ px_tb m r) → px_nk K a c ∧ ((px_sh r').2 ∧ (px_hh r').2 ≤ f + 1 ∧ px_tb m r')
  | 0, _, _, _, _, h, _, _, _ => h.elim
  | g + 1, a, r, r', c, h, h0, hc, hr => by
    obtain ⟨r1, r2, r3⟩ := hr
    rcases h with ⟨q0, t, e, q1, q2, q3⟩ | ⟨q0, q⟩ | ⟨_, _, q1, q2⟩
    · have hae := hT2 _ _ _ q1
      have hec := px_ARg_le hT2 q3
      obtain ⟨k1, k2, k3, k4, k5, k6⟩ := hT _ _ _ q1 (by omega) (by omega)
      obtain ⟨n1, n2⟩ := px_ARg_k hT hT2 q3 (by omega) hc ⟨px_sh_snoc r1 k3, by rw [px_hh_snoc]; omega, px_tb_sn r3 k6⟩
      exact ⟨px_nk_t (px_nk_1 (by omega)) (px_nk_t k1 (px_nk_t (px_nk_1 (by omega)) n1)), n2⟩
    · have hac := px_ARg_le hT2 q
      have hh : (px_hh (px_app a .leaf .leaf)).2 = 1 := rfl
      obtain ⟨n1, n2⟩ := px_ARg_k hT hT2 q (by omega) hc ⟨px_sh_snoc r1 ⟨Or.inr ⟨by decide, trivial⟩, trivial⟩, by rw [px_hh_snoc, hh]; omega, px_tb_sn r3 ⟨⟨h0, by dsimp only; omega⟩, trivial, trivial⟩⟩
      exact ⟨px_nk_t (px_nk_1 (by omega)) n1, n2⟩
    · subst q1 q2
      exact ⟨fun i h1 h2 => by omega, r1, r2, r3⟩
theorem px_TM_rd {K : Nat → Int} {m : Int} : ∀ {f : Nat} {a : Int} {t : px_N} {c : Int}, px_TM K f a t c → 0 ≤ a → c ≤ m → px_nk K a c ∧ px_rd m f t
  | 0, _, _, _, h, _, _ => h.elim
  | f + 1, a, t, c, h, h0, hc => by
    rcases h with ⟨q1, q2, q3, y, e, q4, q5, u, q6, q7⟩ | ⟨q1, r, ⟨g, q⟩, q7⟩
    · have l1 := px_TY_le q4
      have l2 := px_TM_le q6
      obtain ⟨k1, k2, k3, k4, k5, k6⟩ := px_TM_rd q6 (by omega) hc
      subst q7
      have e2 : a + 2 = a + 1 + 1 := by omega
      have e3 : a + 3 = a + 1 + 1 + 1 := by omega
      rw [e2] at q3
      rw [e3] at q4
      refine ⟨px_nk_t (px_nk_1 (by omega)) (px_nk_t (px_nk_1 (by omega)) (px_nk_t (px_nk_1 (by omega)) (px_nk_t (px_TY_k q4) (px_nk_t (px_nk_1 (by omega)) k1)))), Or.inl ⟨rfl, k2⟩, ⟨Or.inl ⟨rfl, k2⟩, trivial⟩, ?_, ?_, ⟨⟨by dsimp only; omega, by dsimp only; omega⟩, k6, trivial⟩⟩
      · show (if (0 : Nat) = 0 then 1 + (px_hh u).1 else 1 + (px_hh u).2) ≤ f + 1 + 1
        rw [if_pos rfl]
        omega
      · show max (if (0 : Nat) = 0 then 1 + (px_hh u).1 else 1 + (px_hh u).2) 0 ≤ f + 1 + 1
        rw [if_pos rfl]
        omega
    · have l2 := px_ARg_le (T := px_TM K f) (fun _ _ _ h => px_TM_le h) q
      obtain ⟨k1, k2, k3, k4⟩ := px_ARg_k (m := m) (f := f) (T := px_TM K f) (fun a t e h h0 he => px_TM_rd h h0 he) (fun _ _ _ h => px_TM_le h) q (by omega) hc ⟨trivial, Nat.zero_le _, trivial⟩
      subst q7
      refine ⟨px_nk_t (px_nk_1 (by omega)) k1, Or.inr ⟨by decide, k2⟩, ⟨Or.inr ⟨by decide, k2⟩, trivial⟩, ?_, ?_, ⟨⟨h0, by dsimp only; omega⟩, k4, trivial⟩⟩
      · show (if (1 : Nat) = 0 then 1 + (px_hh r).1 else 1 + (px_hh r).2) ≤ f + 1 + 1
        rw [if_neg (by decide)]
        omega
      · show max (if (1 : Nat) = 0 then 1 + (px_hh r).1 else 1 + (px_hh r).2) 0 ≤ f + 1 + 1
        rw [if_neg (by decide)]
        omega
/-- an item that was read -/
def px_qi (m : Int) (q : ((Int × Int × qx_T) × (px_N × px_N))) : Prop := ((q.1.1 = 3 ∨ q.1.1 = 4) ∧ (0 ≤ q.1.2.1 ∧ q.1.2.1 < m)) ∨ (q.1.1 = 5 ∧ px_rd m 21 q.2.1 ∧ px_rd m 21 q.2.2)
theorem px_IT_rd {K : Nat → Int} {m a c : Int} {q : ((Int × Int × qx_T) × (px_N × px_N))} (h : px_IT K a q c) (h0 : 0 ≤ a) (hp : K (m - 1).toNat = 0 ∨ K (m - 1).toNat = 1) (ha : a ≤ m - 1) : c ≤ m - 1 ∧ px_qi m q := by
  have key : ∀ e, px_nk K a e → e ≤ m - 1 := fun e hk => by
    by_cases q : e ≤ m - 1
    · exact q
    · have := hk (m - 1) ha (by omega)
      omega
  rcases h with ⟨q1, q2, q3, x, e, q4, q5, q6, q7⟩ | ⟨q1, t, e, u, g, q2, q3, q4, q5, q6, q7⟩
  · have e2 : a + 2 = a + 1 + 1 := by omega
    have e3 : a + 3 = a + 1 + 1 + 1 := by omega
    rw [e2] at q3
    rw [e3] at q4
    have l := px_TY_le q4
    have hc : c ≤ m - 1 := by
      refine key c ?_
      subst q6
      exact px_nk_t (px_nk_1 (by omega)) (px_nk_t (px_nk_1 (by omega)) (px_nk_t (px_nk_1 (by omega)) (px_nk_t (px_TY_k q4) (px_nk_1 (by omega)))))
    subst q7
    exact ⟨hc, Or.inl ⟨q1, by dsimp only; omega, by dsimp only; omega⟩⟩
  · have l1 := px_TM_le q2
    have l2 := px_TM_le q4
    have n1 := (px_TM_rd (m := e) q2 (by omega) (Int.le_refl _)).1
    have n2 := (px_TM_rd (m := g) q4 (by omega) (Int.le_refl _)).1
    have hc : c ≤ m - 1 := by
      refine key c ?_
      subst q6
      exact px_nk_t (px_nk_1 (by omega)) (px_nk_t n1 (px_nk_t (px_nk_1 (by omega)) (px_nk_t n2 (px_nk_1 (by omega)))))
    subst q7
    exact ⟨hc, Or.inr ⟨rfl, (px_TM_rd q2 (by omega) (by omega)).2, (px_TM_rd q4 (by omega) (by omega)).2⟩⟩
theorem px_TX_rd {K : Nat → Int} {m : Int} (hp : K (m - 1).toNat = 0 ∨ K (m - 1).toNat = 1) : ∀ {l : List ((Int × Int × qx_T) × (px_N × px_N))} {a : Int}, px_TX K l a → 0 ≤ a → a ≤ m - 1 → ∀ q ∈ l, px_qi m q
  | [], _, _, _, _, q, hq => absurd hq List.not_mem_nil
  | q0 :: l, a, ⟨c, h1, h2⟩, h0, ha, q, hq => by
    obtain ⟨k1, k2⟩ := px_IT_rd h1 h0 hp ha
    rcases List.mem_cons.mp hq with rfl | hq
    · exact k2
    · have := px_IT_le h1
      exact px_TX_rd hp h2 (by omega) k1 q hq
