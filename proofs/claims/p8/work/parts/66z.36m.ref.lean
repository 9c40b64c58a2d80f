section
/-! ===== what was read: its tokens, its shape ===== -/
def px_nk (K : Nat → Int) (a c : Int) : Prop := ∀ i : Int, a ≤ i → i < c → K i.toNat ≠ 0 ∧ K i.toNat ≠ 1
theorem px_nk_1 {K : Nat → Int} {a : Int} (h : K a.toNat ≠ 0 ∧ K a.toNat ≠ 1) : px_nk K a (a + 1) := fun i h1 h2 => by
  have : i = a := by omega
  rw [this]
  exact h
theorem px_nk_t {K : Nat → Int} {a c e : Int} (h1 : px_nk K a c) (h2 : px_nk K c e) : px_nk K a e := fun i a1 a2 => by
  by_cases q : i < c
  · exact h1 i a1 q
  · exact h2 i (by omega) a2
theorem px_TY_k {K : Nat → Int} : ∀ {f : Nat} {a : Int} {x : qx_T} {c : Int}, px_TY K f a x c → px_nk K a c
  | 0, _, _, _, h => h.elim
  | f + 1, a, x, c, h => by
    obtain ⟨y, e, h1, h2⟩ := h
    have he : px_nk K a e := by
      rcases h1 with ⟨q0, _, q⟩ | ⟨q0, _, q⟩ | ⟨q0, g, q1, q2, q⟩
      · subst q
        exact px_nk_1 (by omega)
      · subst q
        exact px_nk_1 (by omega)
      · subst q
        exact px_nk_t (px_nk_1 (by omega)) (px_nk_t (px_TY_k q1) (px_nk_1 (by omega)))
    rcases h2 with ⟨q0, w, q, _⟩ | ⟨_, _, q⟩
    · exact px_nk_t he (px_nk_t (px_nk_1 (by omega)) (px_TY_k q))
    · subst q
      exact he
theorem px_sh_snoc {p : px_N} : ∀ {n : px_N}, (px_sh n).2 → (px_sh p).2 → (px_sh (px_snoc n p)).2
  | .leaf, _, h => h
  | .inner _ _ _ _ _, h, g => ⟨h.1, px_sh_snoc h.2 g⟩
theorem px_hh_snoc (p : px_N) : ∀ n : px_N, (px_hh (px_snoc n p)).2 = max (px_hh n).2 (px_hh p).2
  | .leaf => (Nat.zero_max _).symm
  | .inner j k _ f x => by
    have := px_hh_snoc p x
    show max _ (px_hh (px_snoc x p)).2 = max (max _ (px_hh x).2) _
    rw [this, Nat.max_assoc]
theorem px_tb_sn {m : Int} {p : px_N} : ∀ {n : px_N}, px_tb m n → px_tb m p → px_tb m (px_snoc n p)
  | .leaf, _, h => h
  | .inner _ _ _ _ _, h, g => ⟨h.1, h.2.1, px_tb_sn h.2.2 g⟩
/-- a TERM that was read: shape, height, tokens; it stands alone -/
def px_rd (m : Int) (f : Nat) (t : px_N) : Prop := (px_sh t).1 ∧ (px_sh t).2 ∧ (px_hh t).1 ≤ f + 1 ∧ (px_hh t).2 ≤ f + 1 ∧ px_tb m t
theorem px_ARg_k {K : Nat → Int} {m : Int} {f : Nat} {T : Int → px_N → Int → Prop} (hT : ∀ a t e, T a t e → 0 ≤ a → e ≤ m → px_nk K a e ∧ px_rd m f t) (hT2 : ∀ a t e, T a t e → a < e) : ∀ {g : Nat} {a : Int} {r r' : px_N} {c : Int}, px_ARg K T g a r r' c → 0 ≤ a → c ≤ m → ((px_sh r).2 ∧ (px_hh r).2 ≤ f + 1 ∧ px_tb m r) → px_nk K a c ∧ ((px_sh r').2 ∧ (px_hh r').2 ≤ f + 1 ∧ px_tb m r')
  | 0, _, _, _, _, h, _, _, _ => h.elim
  | g + 1, a, r, r', c, h, h0, hc, hr => by
    obtain ⟨r1, r2, r3⟩ := hr
    rcases h with ⟨q0, t, e, q1, q2, q3⟩ | ⟨q0, q⟩ | ⟨_, _, q1, q2⟩
    · have hae := hT2 _ _ _ q1
      have hec := px_ARg_le hT2 q3
      obtain ⟨k1, k2, k3, k4, k5, k6⟩ := hT _ _ _ q1 (by omega) (by omega)
      obtain ⟨n1, n2⟩ := px_ARg_k hT hT2 q3 (by omega) hc ⟨px_sh_snoc r1 k3, by rw [px_hh_snoc]; omega, px_tb_sn r3 k6⟩
      exact ⟨px_nk_t (px_nk_1 (by omega)) (px_nk_t k1 (px_nk_t (px_nk_1 (by omega)) n1)), n2⟩
    · have hac := px_ARg_le hT2 q
      have hh : (px_hh (px_app a .leaf .leaf)).2 = 1 := rfl
      obtain ⟨n1, n2⟩ := px_ARg_k hT hT2 q (by omega) hc ⟨px_sh_snoc r1 ⟨Or.inr ⟨by decide, trivial⟩, trivial⟩, by rw [px_hh_snoc, hh]; omega, px_tb_sn r3 ⟨⟨h0, by dsimp only; omega⟩, trivial, trivial⟩⟩
      exact ⟨px_nk_t (px_nk_1 (by omega)) n1, n2⟩
    · subst q1 q2
      exact ⟨fun i h1 h2 => by omega, r1, r2, r3⟩
theorem px_TM_rd {K : Nat → Int} {m : Int} : ∀ {f : Nat} {a : Int} {t : px_N} {c : Int}, px_TM K f a t c → 0 ≤ a → c ≤ m → px_nk K a c ∧ px_rd m f t
  | 0, _, _, _, h, _, _ => h.elim
  | f + 1, a, t, c, h, h0, hc => by
    rcases h with ⟨q1, q2, q3, y, e, q4, q5, u, q6, q7⟩ | ⟨q1, r, ⟨g, q⟩, q7⟩
    · have l1 := px_TY_le q4
      have l2 := px_TM_le q6
      obtain ⟨k1, k2, k3, k4, k5, k6⟩ := px_TM_rd q6 (by omega) hc
      subst q7
      have e2 : a + 2 = a + 1 + 1 := by omega
      have e3 : a + 3 = a + 1 + 1 + 1 := by omega
      rw [e2] at q3
      rw [e3] at q4
      refine ⟨px_nk_t (px_nk_1 (by omega)) (px_nk_t (px_nk_1 (by omega)) (px_nk_t (px_nk_1 (by omega)) (px_nk_t (px_TY_k q4) (px_nk_t (px_nk_1 (by omega)) k1)))), Or.inl ⟨rfl, k2⟩, ⟨Or.inl ⟨rfl, k2⟩, trivial⟩, ?_, ?_, ⟨⟨by dsimp only; omega, by dsimp only; omega⟩, k6, trivial⟩⟩
      · show (if (0 : Nat) = 0 then 1 + (px_hh u).1 else 1 + (px_hh u).2) ≤ f + 1 + 1
        rw [if_pos rfl]
        omega
      · show max (if (0 : Nat) = 0 then 1 + (px_hh u).1 else 1 + (px_hh u).2) 0 ≤ f + 1 + 1
        rw [if_pos rfl]
        omega
    · have l2 := px_ARg_le (T := px_TM K f) (fun _ _ _ h => px_TM_le h) q
      obtain ⟨k1, k2, k3, k4⟩ := px_ARg_k (m := m) (f := f) (T := px_TM K f) (fun a t e h h0 he => px_TM_rd h h0 he) (fun _ _ _ h => px_TM_le h) q (by omega) hc ⟨trivial, Nat.zero_le _, trivial⟩
      subst q7
      refine ⟨px_nk_t (px_nk_1 (by omega)) k1, Or.inr ⟨by decide, k2⟩, ⟨Or.inr ⟨by decide, k2⟩, trivial⟩, ?_, ?_, ⟨⟨h0, by dsimp only; omega⟩, k4, trivial⟩⟩
      · show (if (1 : Nat) = 0 then 1 + (px_hh r).1 else 1 + (px_hh r).2) ≤ f + 1 + 1
        rw [if_neg (by decide)]
        omega
      · show max (if (1 : Nat) = 0 then 1 + (px_hh r).1 else 1 + (px_hh r).2) 0 ≤ f + 1 + 1
        rw [if_neg (by decide)]
        omega
/-- an item that was read -/
def px_qi (m : Int) (q : ((Int × Int × qx_T) × (px_N × px_N))) : Prop := ((q.1.1 = 3 ∨ q.1.1 = 4) ∧ (0 ≤ q.1.2.1 ∧ q.1.2.1 < m)) ∨ (q.1.1 = 5 ∧ px_rd m 21 q.2.1 ∧ px_rd m 21 q.2.2)
theorem px_IT_rd {K : Nat → Int} {m a c : Int} {q : ((Int × Int × qx_T) × (px_N × px_N))} (h : px_IT K a q c) (h0 : 0 ≤ a) (hp : K (m - 1).toNat = 0 ∨ K (m - 1).toNat = 1) (ha : a ≤ m - 1) : c ≤ m - 1 ∧ px_qi m q := by
  have key : ∀ e, px_nk K a e → e ≤ m - 1 := fun e hk => by
    by_cases q : e ≤ m - 1
    · exact q
    · have := hk (m - 1) ha (by omega)
      omega
  rcases h with ⟨q1, q2, q3, x, e, q4, q5, q6, q7⟩ | ⟨q1, t, e, u, g, q2, q3, q4, q5, q6, q7⟩
  · have e2 : a + 2 = a + 1 + 1 := by omega
    have e3 : a + 3 = a + 1 + 1 + 1 := by omega
    rw [e2] at q3
    rw [e3] at q4
    have l := px_TY_le q4
    have hc : c ≤ m - 1 := by
      refine key c ?_
      subst q6
      exact px_nk_t (px_nk_1 (by omega)) (px_nk_t (px_nk_1 (by omega)) (px_nk_t (px_nk_1 (by omega)) (px_nk_t (px_TY_k q4) (px_nk_1 (by omega)))))
    subst q7
    exact ⟨hc, Or.inl ⟨q1, by dsimp only; omega, by dsimp only; omega⟩⟩
  · have l1 := px_TM_le q2
    have l2 := px_TM_le q4
    have n1 := (px_TM_rd (m := e) q2 (by omega) (Int.le_refl _)).1
    have n2 := (px_TM_rd (m := g) q4 (by omega) (Int.le_refl _)).1
    have hc : c ≤ m - 1 := by
      refine key c ?_
      subst q6
      exact px_nk_t (px_nk_1 (by omega)) (px_nk_t n1 (px_nk_t (px_nk_1 (by omega)) (px_nk_t n2 (px_nk_1 (by omega)))))
    subst q7
    exact ⟨hc, Or.inr ⟨rfl, (px_TM_rd q2 (by omega) (by omega)).2, (px_TM_rd q4 (by omega) (by omega)).2⟩⟩
theorem px_TX_rd {K : Nat → Int} {m : Int} (hp : K (m - 1).toNat = 0 ∨ K (m - 1).toNat = 1) : ∀ {l : List ((Int × Int × qx_T) × (px_N × px_N))} {a : Int}, px_TX K l a → 0 ≤ a → a ≤ m - 1 → ∀ q ∈ l, px_qi m q
  | [], _, _, _, _, q, hq => absurd hq List.not_mem_nil
  | q0 :: l, a, ⟨c, h1, h2⟩, h0, ha, q, hq => by
    obtain ⟨k1, k2⟩ := px_IT_rd h1 h0 hp ha
    rcases List.mem_cons.mp hq with rfl | hq
    · exact k2
    · have := px_IT_le h1
      exact px_TX_rd hp h2 (by omega) k1 q hq
end
section
/-! ===== the reference: load, exactly: what holds on the way ===== -/
def px_LI (l : List ((Int × Int × qx_T) × (px_N × px_N))) (n : Int) (c : Nat) (s u : sx_S) (x2 lo : Int) : Prop := (cx_I u ∧ rf_dk s u) ∧ (u.1 66 1 = 0 ∧ u.1 66 8 = 0 ∧ u.1 66 34 = 0 ∧ u.1 66 37 = 0 ∧ u.1 66 78 = 0) ∧ (u.1 66 40 = 0 ∨ (0 ≤ u.1 66 41 ∧ u.1 66 41 ≤ 241)) ∧ (u.1 66 40 = 0 → rf_CK u ∧ rf_ES u) ∧ (0 ≤ lo ∧ lo ≤ u.1 66 12 ∧ u.1 66 12 ≤ n) ∧ (2 ≤ u.1 66 9 ∧ u.1 66 9 + (u.1 66 12 - lo) ≤ 2 + 2 * n) ∧ (u.1 66 50 + 90 * (u.1 66 12 - lo) ≤ 90 * n ∧ u.1 66 58 + 45 * (u.1 66 12 - lo) ≤ 1 + 45 * n ∧ u.1 66 56 + 45 * (u.1 66 12 - lo) ≤ 45 * n) ∧ (c ≤ u.2.2.2 ∧ (u.2.2.2 : Int) + 9 * (u.1 66 12 - lo) ≤ (c : Int) + 9 * n) ∧ 1 ≤ u.1 66 58 ∧ ∃ L : Nat → Int, L x2.toNat = lo ∧ ∀ k : Nat, x2 ≤ (k : Int) → (k : Int) < u.1 66 24 → (∃ q, l[k]? = some q ∧ px_itm u k (L k) (L (k + 1)) q) ∧ L (k + 1) ≤ u.1 66 12

def px_LS (bb : Nat → Int) (n mt : Int) (l : List ((Int × Int × qx_T) × (px_N × px_N))) (s : sx_S) : Prop := (∀ k : Nat, (k : Int) < n → bb k = s.2.1 67 k) ∧ mt ≤ 242 ∧ px_TX (px_K bb n) l 0 ∧ ∀ q ∈ l, px_qi mt q
/-- how many items of a sort -/
def px_c3 (k : Int) : List ((Int × Int × qx_T) × (px_N × px_N)) → Nat
  | [] => 0
  | q :: l => (if q.1.1 = k then 1 else 0) + px_c3 k l
def px_an (bb : Nat → Int) (n z : Int) : Prop := (z = -2 ∧ ∀ l, ¬ px_TX (px_K bb n) l 0) ∨ (∃ l, px_TX (px_K bb n) l 0 ∧ ((z = 0 ∧ px_ck (px_SN bb n) l [] [] 0) ∨ (z = -3 ∧ ¬ px_ck (px_SN bb n) l [] [] 0)))
/-- load's answer, whether there is a text, how many of each -/
def px_A5 (bb : Nat → Int) (n z h c m e : Int) : Prop := (z = -2 ∧ (∀ l, ¬ px_TX (px_K bb n) l 0) ∧ h = 0) ∨ (∃ l, px_TX (px_K bb n) l 0 ∧ ((z = 0 ∧ px_ck (px_SN bb n) l [] [] 0 ∧ h = 1 ∧ c = (px_c3 3 l : Int) ∧ m = (px_c3 4 l : Int) ∧ e = (px_c3 5 l : Int)) ∨ (z = -3 ∧ ¬ px_ck (px_SN bb n) l [] [] 0 ∧ h = 0)))
theorem px_A5_cg {bb c' : Nat → Int} {n z h c m e : Int} (h' : ∀ k : Nat, (k : Int) < n → bb k = c' k) (hn : 0 ≤ n) (g : px_A5 bb n z h c m e) : px_A5 c' n z h c m e := by
  have e1 := px_K_cg h'
  have e2 : px_SN bb n = px_SN c' n := by
    funext i j
    exact propext (px_sn_cg h' i.toNat j.toNat hn)
  unfold px_A5 at g ⊢
  rw [← e1, ← e2]
  exact g
theorem px_A5_no {bb : Nat → Int} {n z h c m e : Int} (g : px_an bb n z) (hz : z ≠ 0) (hh : h = 0) : px_A5 bb n z h c m e := by
  rcases g with ⟨g1, g2⟩ | ⟨l, g1, ⟨g2, _⟩ | ⟨g2, g3⟩⟩
  · exact Or.inl ⟨g1, g2, hh⟩
  · exact absurd g2 hz
  · exact Or.inr ⟨l, g1, Or.inr ⟨g2, g3, hh⟩⟩
theorem px_an_cg {bb c : Nat → Int} {n z : Int} (h : ∀ k : Nat, (k : Int) < n → bb k = c k) (hn : 0 ≤ n) (g : px_an bb n z) : px_an c n z := by
  have e1 := px_K_cg h
  have e2 : px_SN bb n = px_SN c n := by
    funext i j
    exact propext (px_sn_cg h i.toNat j.toNat hn)
  unfold px_an at g ⊢
  rw [← e1, ← e2]
  exact g
theorem px_ps_lv {b : Nat → Int} {n : Int} (hn : 0 ≤ n) : ∀ {i : Nat}, px_lv b n i → (i : Int) ≤ px_ps b n i
  | 0, _ => px_ps_ge 0
  | i + 1, h => by
    have ih := px_ps_lv hn (i := i) (fun j hj => h j (by omega))
    have hk := (h i (by omega)).1
    have hlt : px_ps b n i < n := by
      by_cases q : px_ps b n i < n
      · exact q
      · exact absurd (px_kde (by omega)).1 hk
    have h1 := px_en_gt (b := b) hlt
    have h2 : px_en b n (px_ps b n i) ≤ px_ps b n (i + 1) := px_ru_ge
    push_cast
    omega
theorem px_RE_te {b : Nat → Int} {n m : Int} {t : sx_S} (h : px_RE b n m t) (hn : 0 ≤ n) : rf_te (t.2.1 69) (m - 1) ∧ m - 1 ≤ n ∧ px_RQ b n t := by
  obtain ⟨⟨m1, m2⟩, h2, h3, h4⟩ := h
  have hle := px_ps_lv hn h3
  have hps := px_ps_le (b := b) hn (m - 1).toNat
  have ha := (h2 (m - 1).toNat (by omega)).1
  have hr := px_rc_k (px_K b n (m - 1).toNat)
  refine ⟨⟨by omega, by omega, fun j hj => ?_, ?_⟩, by omega, fun i hi => ?_⟩
  · have h5 := h3 j (by omega)
    have h6 := (h2 j (by omega)).1
    have h7 := px_rc_k (px_K b n j)
    rw [h6]
    exact ⟨fun q => h5.1 (h7.2.2.1 q), fun q => h5.2 (h7.2.2.2 q)⟩
  · rw [ha]
    rcases h4 with q | q
    · exact Or.inl (hr.1 q)
    · exact Or.inr (hr.2.1 q)
  · refine (h2 i ?_).1
    by_cases q : (i : Int) < m
    · exact q
    · have := hi (m - 1).toNat (by omega)
      rcases h4 with z | z
      · exact absurd z this.1
      · exact absurd z this.2
theorem px_itm_lo {s : sx_S} {k : Nat} {lo lo' hi : Int} {q : ((Int × Int × qx_T) × (px_N × px_N))} (h : px_itm s k lo hi q) (h0 : lo' ≤ lo) : px_itm s k lo' hi q := by
  rcases h with ⟨a, b, c⟩ | ⟨a, a2, mid, b, c, d⟩
  · exact Or.inl ⟨a, by omega, c⟩
  · exact Or.inr ⟨a, a2, mid, ⟨by omega, by omega, by omega, by omega⟩, px_tr_wk c h0 (Int.le_refl _), d⟩
theorem px_tr_up2 {s t : sx_S} {lo hi z : Int} {m : px_N} (ha : ∀ p, 74 ≤ p → p ≤ 81 → t.2.1 p = s.2.1 p) (h8 : t.1 66 8 = s.1 66 8) (h12 : t.1 66 12 = s.1 66 12) (hu : rf_tu s t) (k : px_tr lo hi s z m) : px_tr lo hi t z m := by
  obtain ⟨n, k1, k2, k3, k4, k5⟩ := k
  refine ⟨n, ?_, k2, k3, k4, fun q => px_is_up hu (fun j _ => ⟨by rw [ha 76 (by omega) (by omega)], by rw [ha 78 (by omega) (by omega)]⟩) (k5 (by omega))⟩
  unfold rf_rt at k1 ⊢
  rw [ha 74 (by omega) (by omega), ha 75 (by omega) (by omega), ha 80 (by omega) (by omega), ha 81 (by omega) (by omega), h12]
  exact k1
theorem px_itm_up2 {s t : sx_S} {k : Nat} {lo hi : Int} {q : ((Int × Int × qx_T) × (px_N × px_N))} (ha : ∀ p, 74 ≤ p → p ≤ 81 → t.2.1 p = s.2.1 p) (hb : ∀ p, 85 ≤ p → p ≤ 92 → t.2.1 p = s.2.1 p) (h8 : t.1 66 8 = s.1 66 8) (h12 : t.1 66 12 = s.1 66 12) (hu : rf_tu s t) (h : px_itm s k lo hi q) : px_itm t k lo hi q := by
  unfold px_itm
  rw [hb 85 (by omega) (by omega), hb 86 (by omega) (by omega), hb 87 (by omega) (by omega), hb 89 (by omega) (by omega), hb 90 (by omega) (by omega), hb 91 (by omega) (by omega)]
  rcases h with ⟨a, b, c, d, e⟩ | ⟨a, a2, mid, b, c, d⟩
  · exact Or.inl ⟨a, b, c, qx_is_up d hu, e⟩
  · exact Or.inr ⟨a, a2, mid, b, px_tr_up2 ha h8 h12 hu c, px_tr_up2 ha h8 h12 hu d⟩
theorem px_drop {l : List ((Int × Int × qx_T) × (px_N × px_N))} {k : Nat} {q : ((Int × Int × qx_T) × (px_N × px_N))} (h : l[k]? = some q) : l.drop k = q :: l.drop (k + 1) := by
  obtain ⟨hl, e⟩ := List.getElem?_eq_some_iff.mp h
  rw [List.drop_eq_getElem_cons hl, e]
end
section
/-! ===== the desk's checker: types, exactly ===== -/
def dz_f (W : List Nat) (s t : sx_S) : Prop := ∀ k, W.contains k = false → t.1 18 k = s.1 18 k
def px_UP (s t : sx_S) (x : qx_T) (c z : Int) : Prop := True → (cx_I t ∧ cx_F [(8, 10), (18, 18)] s t) ∧ t.1 18 11 = c ∧ dz_f [11] s t ∧ (dx_is t x z ∧ dx_TI t ∧ dx_tu s t) ∧ 2 ≤ t.1 8 2 ∧ t.1 8 2 ≤ s.1 8 2 + (c - s.1 18 11)
def px_UR (b : Nat → Int) (n : Int) (s : sx_S) (c : Int) : Prop := True → px_TK b n s ∧ 0 ≤ s.1 18 11 ∧ px_lv b n (s.1 18 11).toNat ∧ dx_TI s ∧ 2 ≤ s.1 8 2 ∧ s.1 8 2 + (c - s.1 18 11) ≤ 255
theorem px_lv_nk {b : Nat → Int} {n a c : Int} (h : px_lv b n a.toNat) (h0 : 0 ≤ a) (hk : px_nk (px_K b n) a c) (hc : 0 ≤ c) : px_lv b n c.toNat := fun j hj => by
  by_cases q : j < a.toNat
  · exact h j q
  · have := hk (j : Int) (by omega) (by omega)
    rw [Int.toNat_natCast] at this
    exact this
theorem px_AM_k {K : Nat → Int} {f : Nat} {a : Int} {y : qx_T} {e : Int} (h : px_AM K f a y e) : px_nk K a e ∧ a < e := by
  rcases h with ⟨q0, _, q⟩ | ⟨q0, _, q⟩ | ⟨q0, g, q1, q2, q⟩
  · subst q
    exact ⟨px_nk_1 (by omega), by omega⟩
  · subst q
    exact ⟨px_nk_1 (by omega), by omega⟩
  · subst q
    have := px_TY_le q1
    exact ⟨px_nk_t (px_nk_1 (by omega)) (px_nk_t (px_TY_k q1) (px_nk_1 (by omega))), by omega⟩
theorem dz_u {s : sx_S} {v : Int} : dz_f [11] s (sx_uf s.1 18 11 v, s.2) := fun k hk => by
  show sx_uf s.1 18 11 v 18 k = _
  rw [sx_uf_if]
  refine if_neg (fun c => ?_)
  rw [c.2] at hk
  exact absurd hk (by decide)
theorem dz_t {s t u : sx_S} (h2 : dz_f [11] t u) (h1 : dz_f [11] s t) : dz_f [11] s u := fun k hk => (h2 k hk).trans (h1 k hk)
section PXU
variable {b : Nat → Int} {n : Int} {s t : sx_S} {x y : qx_T} {c e z w p : Int}
theorem dx_u8 {v : Int} : sx_uf s.1 18 11 v 8 2 = s.1 8 2 := by
  rw [sx_uf_if]
  exact if_neg (fun c => absurd c.1 (by decide))
/-- one token on -/
theorem px_UP_n (h : px_UP s t x c z) (hc : 0 ≤ c) (hc2 : c < 2147483647) (hw : w = c + 1) (he : e = c + 1) (hr : c + 1 ≤ 1000) : px_UP s (sx_uf t.1 18 11 w, t.2) x e z := fun _ => by
  obtain ⟨⟨a1, a2⟩, a3, a4, ⟨a5, a6, a7⟩, a8, a9⟩ := h trivial
  subst hw he
  refine ⟨⟨cx_I_uf rfl rfl a1 (by omega) (by omega), cx_F_uf rfl a2⟩, px_us t.1 18 11 (c + 1), dz_t dz_u a4, ⟨?_, ?_, ?_⟩, ?_, ?_⟩
  · unfold dx_is at a5 ⊢
    dsimp only
    rw [dx_u8]
    exact a5
  · unfold dx_TI at a6 ⊢
    dsimp only
    rw [dx_u8]
    exact a6
  · intro j
    dsimp only
    rw [dx_u8]
    exact a7 j
  · dsimp only
    rw [dx_u8]
    exact a8
  · dsimp only
    rw [dx_u8]
    omega
theorem px_UP_0 (hI : cx_I s) (hT : dx_TI s) (h2 : 2 ≤ s.1 8 2) (hx : dx_is s x z) : px_UP s s x (s.1 18 11) z := fun _ => ⟨⟨hI, cx_F_refl _ _⟩, rfl, fun _ _ => rfl, ⟨hx, hT, dx_tu_refl s⟩, h2, by omega⟩
theorem px_UP_t {u : sx_S} {x0 : qx_T} {z0 : Int} (h : px_UP s t x0 e z0) (g : px_UP t u x c z) : px_UP s u x c z := fun _ => by
  obtain ⟨⟨a1, a2⟩, a3, a4, ⟨a5, a6, a7⟩, a8, a9⟩ := h trivial
  obtain ⟨⟨b1, b2⟩, b3, b4, ⟨b5, b6, b7⟩, b8, b9⟩ := g trivial
  exact ⟨⟨b1, cx_F_step b2 rfl a2⟩, b3, dz_t b4 a4, ⟨b5, b6, dx_tu_trans b7 a7⟩, b8, by omega⟩
theorem px_UR_t {x0 : qx_T} {z0 : Int} (h : px_UP s t x0 e z0) (g : px_UR b n s c) (hl : px_lv b n e.toNat) (he : 0 ≤ e) : px_UR b n t c := fun _ => by
  obtain ⟨⟨a1, a2⟩, a3, a4, ⟨a5, a6, a7⟩, a8, a9⟩ := h trivial
  obtain ⟨r1, r2, r3, r4, r5, r6⟩ := g trivial
  exact ⟨px_TK_F a2 rfl rfl rfl rfl r1, by omega, by rw [a3]; exact hl, a6, a8, by omega⟩
theorem px_UR_c {c' : Int} (g : px_UR b n s c) (hc : c' ≤ c) : px_UR b n s c' := fun _ => by
  obtain ⟨r1, r2, r3, r4, r5, r6⟩ := g trivial
  exact ⟨r1, r2, r3, r4, r5, by omega⟩
end PXU

theorem w_du_atom {CALL : sx_Ca} {b : Nat → Int} {n : Int} {g : Nat} {sL : Nat} {sx : Nat → Int32} {Q : Nat → sx_L → sx_S → Prop} {R : Int → sx_S → Prop} (h_kd : ∀ (t0 : Int) (s : sx_S) (K : Int → sx_S → Prop), cx_I s → (0 ≤ t0 ∧ t0 ≤ 1000) → (px_TK b n s) → (px_lv b n t0.toNat) → (∀ z : Int, (z = px_K b n t0.toNat) → K z s) → CALL 101 [.inr (.inl 2), .inl t0] s K) (h_ty : ∀ (p : Int) (x : qx_T) (c a0 : Int) (s : sx_S) (K : Int → sx_S → Prop), cx_I s → a0 = 21 - (g : Int) → s.1 18 11 = p → px_TY (px_K b n) g p x c → px_UR b n s c → (∀ z t, px_UP s t x c z → K z t) → CALL 25 [.inr (.inl 18), .inl a0] s K) {s : sx_S} {a0 p c : Int} {x : qx_T} (hI : cx_I s) (p0 : a0 = 20 - (g : Int)) (pg : g ≤ 20) (pp : s.1 18 11 = p) (pA : px_AM (px_K b n) g p x c) (pR : px_UR b n s c) (hK : ∀ z t, px_UP s t x c z → R z t) : sx_wp true sL sx eX1_atom CALL [] Q R 400 0 (sx_argsF 0 [.inr (.inl 18), .inl a0]) [] s := by
  subst pp
  obtain ⟨r1, r2, r3, r4, r5, r6⟩ := pR trivial
  have zzk := px_TK_kd r1 r2 r3
  have zzt := (r1 trivial).1
  have zzr := px_K_r b n (s.1 18 11).toNat
  have zzq : sx_w true (a0 + 1) = 21 - (g : Int) := by rw [px_wid (by omega) (by omega)]; omega
  have zzw : sx_w true (s.1 18 11 + 1) = s.1 18 11 + 1 := px_wid (by omega) (by omega)
  have zz0 : ∀ y z, dx_is s y z → px_UP s (sx_uf s.1 18 11 (sx_w true (s.1 18 11 + 1)), s.2) y (s.1 18 11 + 1) z := fun y z h => px_UP_n (px_UP_0 hI r4 r5 h) r2 (by omega) zzw rfl (by omega)
  rcases pA with ⟨k, rfl, rfl⟩ | ⟨k, rfl, rfl⟩ | ⟨k, e, hT, k10, rfl⟩
  · have zz1 := hK _ _ (zz0 qx_o 0 rfl)
    have zzc := ((zz0 qx_o 0 rfl) trivial).1.1
    repeat' (first | (with_reducible (rintro _ rfl)) | (with_reducible intro _) | (refine And.intro ?_ ?_) | (refine h_kd _ _ _ ?_ ?_ ?_ ?_ ?_))
    all_goals (try dsimp only at *)
    all_goals (first | trivial | assumption | omega | (exfalso; omega) | skip)
  · have zz1 := hK _ _ (zz0 qx_i 1 ⟨rfl, Or.inl ⟨rfl, rfl, rfl, rfl⟩⟩)
    have zzc := ((zz0 qx_o 0 rfl) trivial).1.1
    repeat' (first | (with_reducible (rintro _ rfl)) | (with_reducible intro _) | (refine And.intro ?_ ?_) | (refine h_kd _ _ _ ?_ ?_ ?_ ?_ ?_))
    all_goals (try dsimp only at *)
    all_goals (first | trivial | assumption | omega | (exfalso; omega) | skip)
  · have zzc := ((zz0 qx_o 0 rfl) trivial).1.1
    have zzl := px_TY_le hT
    have zzR : px_UR b n (sx_uf s.1 18 11 (sx_w true (s.1 18 11 + 1)), s.2) e := px_UR_c (px_UR_t (zz0 qx_o 0 rfl) pR (px_lv_up r3 r2 (by omega) rfl) (by omega)) (by omega)
    have zzF : ∀ z t, px_UP (sx_uf s.1 18 11 (sx_w true (s.1 18 11 + 1)), s.2) t x e z → R z (sx_uf t.1 18 11 (sx_w true (t.1 18 11 + 1)), t.2) ∧ cx_I t ∧ t.1 18 11 = e := fun z t h => by
      have h1 := px_UP_t (zz0 qx_o 0 rfl) h
      have h2 := (h1 trivial).2.1
      refine ⟨hK _ _ (px_UP_n h1 (by omega) (by omega) (by rw [h2, px_wid (by omega) (by omega)]) rfl (by omega)), (h1 trivial).1.1, h2⟩
    repeat' (first | (with_reducible (rintro _ rfl)) | (with_reducible intro _) | (refine And.intro ?_ ?_) | (refine h_kd _ _ _ ?_ ?_ ?_ ?_ ?_) | (refine h_ty _ _ _ _ _ _ ?_ ?_ ?_ hT ?_ ?_))
    all_goals (try dsimp only at *)
    all_goals (first | trivial | assumption | omega | (exfalso; omega) | (exact (zzF _ _ (by assumption)).1) | (exact (zzF _ _ (by assumption)).2.1) | (rw [px_us, zzw]) | (have zz8 := (zzF _ _ (by assumption)).2.2; omega) | skip)
end
section
/-! ===== the desk's checker: types, exactly: by depth ===== -/
theorem px_UP_a {s t u v : sx_S} {y w : qx_T} {e c z1 z2 z w1 : Int} (h1 : px_UP s t y e z1) (h2 : px_UP (sx_uf t.1 18 11 w1, t.2) u w c z2) (hw : w1 = e + 1) (v1 : cx_I v) (v2 : cx_F [(8, 10)] u v) (v3 : dx_is v (qx_a y w) z) (v4 : dx_TI v) (v5 : dx_tu u v) (v6 : v.1 8 2 ≤ u.1 8 2 + 1) : px_UP s v (qx_a y w) c z := fun _ => by
  obtain ⟨⟨a1, a2⟩, a3, a4, ⟨a5, a6, a7⟩, a8, a9⟩ := h1 trivial
  obtain ⟨⟨b1, b2⟩, b3, b4, ⟨b5, b6, b7⟩, b8, b9⟩ := h2 trivial
  dsimp only at b9
  rw [dx_u8, px_us] at b9
  have e18 : v.1 18 = u.1 18 := (v2.same 18 rfl).1
  have b7' : dx_tu t u := fun j => by
    have := b7 j
    dsimp only at this
    rw [dx_u8] at this
    exact this
  have v8 := (v5 0).1
  refine ⟨⟨v1, cx_F_step v2 rfl (cx_F_step b2 rfl (cx_F_uf rfl a2))⟩, by rw [e18]; exact b3, fun k hk => ?_, ⟨v3, v4, dx_tu_trans v5 (dx_tu_trans b7' a7)⟩, by omega, by omega⟩
  rw [e18, b4 k hk]
  exact (dz_u k hk).trans (a4 k hk)
set_option maxHeartbeats 4000000 in
theorem w_du_type {CALL : sx_Ca} {b : Nat → Int} {n : Int} {g : Nat} {sL : Nat} {sx : Nat → Int32} {Q : Nat → sx_L → sx_S → Prop} {R : Int → sx_S → Prop} (h_kd : ∀ (t0 : Int) (s : sx_S) (K : Int → sx_S → Prop), cx_I s → (0 ≤ t0 ∧ t0 ≤ 1000) → (px_TK b n s) → (px_lv b n t0.toNat) → (∀ z : Int, (z = px_K b n t0.toNat) → K z s) → CALL 101 [.inr (.inl 2), .inl t0] s K) (h_at : ∀ (p : Int) (x : qx_T) (c a0 : Int) (s : sx_S) (K : Int → sx_S → Prop), cx_I s → a0 = 20 - (g : Int) → s.1 18 11 = p → px_AM (px_K b n) g p x c → px_UR b n s c → (∀ z t, px_UP s t x c z → K z t) → CALL 26 [.inr (.inl 18), .inl a0] s K) (h_ty : ∀ (p : Int) (x : qx_T) (c a0 : Int) (s : sx_S) (K : Int → sx_S → Prop), cx_I s → a0 = 21 - (g : Int) → s.1 18 11 = p → px_TY (px_K b n) g p x c → px_UR b n s c → (∀ z t, px_UP s t x c z → K z t) → CALL 25 [.inr (.inl 18), .inl a0] s K) (h_ar : ∀ (x y : qx_T) (a0 a1 : Int) (s : sx_S) (R : Int → sx_S → Prop), cx_I s → dx_is s x a0 → dx_is s y a1 → dx_TI s → (2 ≤ s.1 8 2 ∧ s.1 8 2 < 256) → (∀ (z : Int) (t : sx_S), cx_I t → cx_F [(8, 10)] s t → dx_is t (qx_a x y) z → dx_TI t → dx_tu s t → t.1 8 2 ≤ s.1 8 2 + 1 → R z t) → CALL 119 [.inr (.inl 8), .inl a0, .inl a1] s R) {s : sx_S} {a0 p c : Int} {x : qx_T} (hI : cx_I s) (p0 : a0 = 20 - (g : Int)) (pg : g ≤ 20) (pp : s.1 18 11 = p) (pT : px_TY (px_K b n) (g + 1) p x c) (pR : px_UR b n s c) (hK : ∀ z t, px_UP s t x c z → R z t) : sx_wp true sL sx eX1_type CALL [] Q R 400 0 (sx_argsF 0 [.inr (.inl 18), .inl a0]) [] s := by
  subst pp
  obtain ⟨r1, r2, r3, r4, r5, r6⟩ := pR trivial
  have zzk := px_TK_kd r1 r2 r3
  have zzt := (r1 trivial).1
  have zzq : sx_w true (a0 + 1) = 21 - (g : Int) := by rw [px_wid (by omega) (by omega)]; omega
  have zzl := px_TY_le pT
  obtain ⟨y, e, hA, hB⟩ := px_TY_it.mp pT
  obtain ⟨n1, n2⟩ := px_AM_k hA
  have zzv : px_lv b n e.toNat := px_lv_nk r3 r2 n1 (by omega)
  have zze := px_K_r b n e.toNat
  have zzF : ∀ z t, px_UP s t y e z → (cx_I t ∧ t.1 18 11 = e ∧ px_TK b n t) ∧ e ≤ 240 := fun z t h => by
    obtain ⟨⟨a1, a2⟩, a3, _⟩ := h trivial
    have h1 := px_TK_F a2 rfl rfl rfl rfl r1
    have h2 := px_TK_kd h1 (by omega : 0 ≤ e) zzv
    have h3 := (h1 trivial).1
    exact ⟨⟨a1, a3, h1⟩, by omega⟩
  rcases hB with ⟨k8, w, hT, rfl⟩ | ⟨k8, rfl, rfl⟩
  · have zzc := px_TY_le hT
    have zzG : ∀ z t, px_UP s t y e z → px_UP s (sx_uf t.1 18 11 (sx_w true (t.1 18 11 + 1)), t.2) y (e + 1) z ∧ px_UR b n (sx_uf t.1 18 11 (sx_w true (t.1 18 11 + 1)), t.2) c ∧ sx_w true (t.1 18 11 + 1) = e + 1 := fun z t h => by
      obtain ⟨⟨f1, f2, f3⟩, f4⟩ := zzF z t h
      have hw : sx_w true (t.1 18 11 + 1) = e + 1 := by rw [f2, px_wid (by omega) (by omega)]
      have h1 := px_UP_n h (by omega) (by omega) hw rfl (by omega)
      exact ⟨h1, px_UR_t h1 pR (px_lv_up zzv (by omega) (by omega) rfl) (by omega), hw⟩
    have zzH : ∀ z t z2 u, px_UP s t y e z → px_UP (sx_uf t.1 18 11 (sx_w true (t.1 18 11 + 1)), t.2) u w c z2 → (cx_I u ∧ dx_is u y z ∧ dx_is u w z2 ∧ dx_TI u ∧ (2 ≤ u.1 8 2 ∧ u.1 8 2 < 256)) ∧ ∀ z3 v, cx_I v → cx_F [(8, 10)] u v → dx_is v (qx_a y w) z3 → dx_TI v → dx_tu u v → v.1 8 2 ≤ u.1 8 2 + 1 → R z3 v := fun z t z2 u h1 h2 => by
      obtain ⟨g1, g2, g3⟩ := zzG z t h1
      have h3 := px_UP_t g1 h2
      obtain ⟨⟨a1, a2⟩, a3, a4, ⟨a5, a6, a7⟩, a8, a9⟩ := g1 trivial
      obtain ⟨⟨b1, b2⟩, b3, b4, ⟨b5, b6, b7⟩, b8, b9⟩ := h2 trivial
      obtain ⟨_, _, _, _, _, c9⟩ := h3 trivial
      exact ⟨⟨b1, dx_is_up a5 b7, b5, b6, b8, by omega⟩, fun z3 v v1 v2 v3 v4 v5 v6 => hK z3 v (px_UP_a h1 h2 g3 v1 v2 v3 v4 v5 v6)⟩
    repeat' (first | (with_reducible (rintro _ rfl)) | (with_reducible intro _) | (refine And.intro ?_ ?_) | (refine h_kd _ _ _ ?_ ?_ ?_ ?_ ?_) | (refine h_at _ _ _ _ _ _ ?_ ?_ ?_ hA (px_UR_c pR (by omega)) ?_) | (refine h_ty _ _ _ _ _ _ ?_ ?_ ?_ hT ?_ ?_) | (refine h_ar y w _ _ _ _ ?_ ?_ ?_ ?_ ?_ ?_))
    all_goals (try dsimp only at *)
    all_goals (first | trivial | assumption | omega | (refine absurd ?_ (by assumption : px_K b n _ ≠ 8); rw [(zzF _ _ (by assumption)).1.2.1]; exact k8) | (exact (zzF _ _ (by assumption)).1.1) | (exact (zzF _ _ (by assumption)).1.2.2) | (exact ((zzG _ _ (by assumption)).1 trivial).1.1) | (exact (zzG _ _ (by assumption)).2.1) | (rw [px_us]; exact (zzG _ _ (by assumption)).2.2) | (exact (zzH _ _ _ _ (by assumption) (by assumption)).1.1) | (exact (zzH _ _ _ _ (by assumption) (by assumption)).1.2.1) | (exact (zzH _ _ _ _ (by assumption) (by assumption)).1.2.2.1) | (exact (zzH _ _ _ _ (by assumption) (by assumption)).1.2.2.2.1) | (exact (zzH _ _ _ _ (by assumption) (by assumption)).1.2.2.2.2.1) | (exact (zzH _ _ _ _ (by assumption) (by assumption)).1.2.2.2.2.2) | (exact (zzH _ _ _ _ (by assumption) (by assumption)).2 _ _ (by assumption) (by assumption) (by assumption) (by assumption) (by assumption) (by assumption)) | (have zz8 := zzF _ _ (by assumption); obtain ⟨⟨zz1, zz2, zz3⟩, zz4⟩ := zz8; first | omega | (rw [zz2]; first | assumption | omega) | (exfalso; have zz5 := congrArg (fun v => px_K b n (Int.toNat v)) zz2; dsimp only at zz5; omega)) | skip)
  · repeat' (first | (with_reducible (rintro _ rfl)) | (with_reducible intro _) | (refine And.intro ?_ ?_) | (refine h_kd _ _ _ ?_ ?_ ?_ ?_ ?_) | (refine h_at _ _ _ _ _ _ ?_ ?_ ?_ hA pR ?_))
    all_goals (try dsimp only at *)
    all_goals (first | trivial | assumption | omega | (refine absurd (by assumption : px_K b n _ = 8) ?_; rw [(zzF _ _ (by assumption)).1.2.1]; exact k8) | (exact hK _ _ (by assumption)) | (exact (zzF _ _ (by assumption)).1.1) | (exact (zzF _ _ (by assumption)).1.2.2) | (have zz8 := zzF _ _ (by assumption); obtain ⟨⟨zz1, zz2, zz3⟩, zz4⟩ := zz8; first | omega | (rw [zz2]; first | assumption | omega) | (exfalso; have zz5 := congrArg (fun v => px_K b n (Int.toNat v)) zz2; dsimp only at zz5; omega)) | skip)
theorem c_du_type {sL : Nat} {sx : Nat → Int32} (hsL : sL ≤ 3072) (b : Nat → Int) (n : Int) : ∀ g : Nat, g ≤ 21 → ∀ d, 4 + 2 * g ≤ d → ∀ (p : Int) (x : qx_T) (c a0 : Int) (s : sx_S) (K : Int → sx_S → Prop), cx_I s → a0 = 21 - (g : Int) → s.1 18 11 = p → px_TY (px_K b n) g p x c → px_UR b n s c → (∀ z t, px_UP s t x c z → K z t) → sx_C sL sx d 25 [.inr (.inl 18), .inl a0] s K := by
  intro g
  induction g with
  | zero =>
    intro _ d hd p x c a0 s K hI p0 pp pT
    exact pT.elim
  | succ g ih =>
    intro hg d hd p x c a0 s K hI p0 pp pT pR hK
    obtain ⟨e, rfl⟩ : ∃ e, d = e + 3 := ⟨d - 3, by omega⟩
    have at0 : ∀ (p : Int) (x : qx_T) (c a0 : Int) (s : sx_S) (K : Int → sx_S → Prop), cx_I s → a0 = 20 - (g : Int) → s.1 18 11 = p → px_AM (px_K b n) g p x c → px_UR b n s c → (∀ z t, px_UP s t x c z → K z t) → sx_C sL sx (e + 2) 26 [.inr (.inl 18), .inl a0] s K := fun p x c a0 s K hI p0 pp pA pR hK => sx_meth (wr := true) (n := 400) hsL (e := eX1_atom) rfl (w_du_atom (Q := fun _ _ _ => False) (c_dx_kind hsL (e + 1) (by omega) b n) (ih (by omega) (e + 1) (by omega)) hI p0 (by omega) pp pA pR hK)
    exact sx_meth (wr := true) (n := 400) hsL (e := eX1_type) rfl (w_du_type (Q := fun _ _ _ => False) (c_dx_kind hsL (e + 2) (by omega) b n) at0 (ih (by omega) (e + 2) (by omega)) (c_du_arrow hsL (e + 2) (by omega)) hI (by omega) (by omega) pp pT pR hK)
end
section
/-! ===== the desk's declared names, exactly ===== -/
/-- the desk's declared names of one sort -/
def dz_DL (o p q : Nat) (s : sx_S) (L : List (Int × qx_T)) : Prop := True → (L.length : Int) = s.1 o 2 ∧ ∀ k : Nat, k < L.length → ∃ e, L[k]? = some e ∧ s.2.1 p k = e.1 ∧ (0 ≤ e.1 ∧ e.1 < s.1 2 5) ∧ dx_is s e.2 (s.2.1 q k)
/-- the tokens, as the desk compares names -/
def dz_TN (b : Nat → Int) (n : Int) (s : sx_S) : Prop := True → s.2.1 3 = b ∧ s.1 2 4 = n ∧ px_TK b n s
theorem dz_DL_tok {o p q : Nat} {s : sx_S} {L : List (Int × qx_T)} (h : dz_DL o p q s L) {k : Int} (h0 : 0 ≤ k) (hk : k < s.1 o 2) : ∃ e, L[k.toNat]? = some e ∧ s.2.1 p k.toNat = e.1 ∧ (0 ≤ e.1 ∧ e.1 < s.1 2 5) ∧ dx_is s e.2 (s.2.1 q k.toNat) := by
  obtain ⟨h1, h2⟩ := h trivial
  exact h2 k.toNat (by omega)

theorem c_dx_sn {sL : Nat} {sx : Nat → Int32} (hsL : sL ≤ 3072) (d : Nat) (hd : 2 ≤ d) (b : Nat → Int) (n : Int) : ∀ (a0 a1 : Int) (s : sx_S) (K : Int → sx_S → Prop), cx_I s → (0 ≤ a0 ∧ a0 ≤ 239) → (0 ≤ a1 ∧ a1 ≤ 239) → (a0 < s.1 2 5 ∧ a1 < s.1 2 5) → (dz_TN b n s) → (∀ z : Int, (z = 0 ∨ z = 1) → (z ≠ 0 → px_SN b n a0 a1) → (z = 0 → ¬ px_SN b n a0 a1) → K z s) → sx_C sL sx d 105 [.inr (.inl 2), .inl a0, .inl a1] s K := fun a0 a1 s K hI p0 p1 p2 p3 hK => c_dx_sameName hsL d hd b n a0 a1 s K hI p0 p1 (p3 trivial).1 (p3 trivial).2.1 (p3 trivial).2.2 p2 hK

theorem w_dx_findC {CALL : sx_Ca} {b : Nat → Int} {n : Int} {C : List (Int × qx_T)} {sL : Nat} {sx : Nat → Int32} {Q : Nat → sx_L → sx_S → Prop} {R : Int → sx_S → Prop} (h_dx_sn : ∀ (a0 a1 : Int) (s : sx_S) (K : Int → sx_S → Prop), cx_I s → (0 ≤ a0 ∧ a0 ≤ 239) → (0 ≤ a1 ∧ a1 ≤ 239) → (a0 < s.1 2 5 ∧ a1 < s.1 2 5) → (dz_TN b n s) → (∀ z : Int, (z = 0 ∨ z = 1) → (z ≠ 0 → px_SN b n a0 a1) → (z = 0 → ¬ px_SN b n a0 a1) → K z s) → CALL 105 [.inr (.inl 2), .inl a0, .inl a1] s K) {s : sx_S} {a0 : Int} (hI : cx_I s) (p0 : (0 ≤ a0 ∧ a0 ≤ 239)) (p1 : (dz_TN b n s)) (p2 : (a0 < s.1 2 5)) (p3 : (dz_DL 19 20 21 s C)) (hK : ∀ z : Int, (-1 ≤ z ∧ z ≤ 7) → (z = -1 → px_nv (px_SN b n) C a0) → (z ≠ -1 → (0 ≤ z ∧ z < s.1 19 2) ∧ ∃ x, px_cf (px_SN b n) C a0 z.toNat x) → R z s) (hQ2 : ∀ (x2 x3 : Int) (_ : True), (0 ≤ x2 ∧ x2 ≤ 239) → (0 ≤ x3 ∧ x3 ≤ 8) → (x2 = a0) → (x3 ≤ s.1 19 2) → (px_n1 (px_SN b n) C a0 x3) → Q 2 [(0, .inr (.inl 19)), (1, .inr (.inl 2)), (2, .inl x2), (3, .inl x3)] s) : sx_wp true sL sx eX4_find CALL [(2, [0, 1, 2, 3])] Q R 400 0 (sx_argsF 0 [.inr (.inl 19), .inr (.inl 2), .inl a0]) [] s := by
  have zzl := (p3 trivial).1
  have zzm := (((p1 trivial).2.2) trivial).1
  repeat' (first | (with_reducible intro _) | (refine And.intro ?_ ?_) | (refine hK _ ?_ ?_ ?_) | (refine h_dx_sn _ _ _ _ ?_ ?_ ?_ ?_ ?_ ?_) | (refine hQ2 _ _ trivial ?_ ?_ ?_ ?_ ?_))
  all_goals (try dsimp only)
  repeat' (first | (with_reducible assumption) | ((with_reducible (change cx_I (sx_uf _ _ _ _, _))); refine cx_I_uf rfl rfl ?_ ?_ ?_) | ((with_reducible (change cx_I (_, sx_ua _ _ _ _, _))); refine cx_I_ua rfl rfl ?_ ?_ ?_) | ((with_reducible (change cx_I (_, sx_ua _ 16 _ _, _))); refine cx_I_ari ?_ ?_ ?_) | ((with_reducible (change cx_I (sx_uf _ 11 6 _, _))); refine cx_I_ufA rfl ?_ ?_ ?_ ?_) | (with_reducible exact cx_F_refl _ _) | ((with_reducible (change cx_F _ _ (sx_uf _ _ _ _, _))); refine cx_F_uf rfl ?_) | ((with_reducible (change cx_F _ _ (_, sx_ua _ _ _ _, _))); refine cx_F_ua rfl ?_) | ((with_reducible (change cx_I (_, sx_cpy _ _ _ _ _ _, _))); refine cx_I_cpy rfl rfl rfl (by decide) ?_) | ((with_reducible (change cx_F _ _ (_, sx_cpy _ _ _ _ _ _, _))); refine cx_F_cpy rfl ?_) | ((with_reducible (change cx_F _ _ _)); refine cx_F_step (by assumption) rfl ?_) | ((with_reducible (change rf_f _ _ (sx_uf _ 66 _ _, _))); refine rf_f_uf rfl ?_) | ((with_reducible (change rf_f _ _ _)); exact (fun _ _ => rfl)) | ((with_reducible (change rf_f _ _ (_, sx_ua _ _ _ _, _))); refine rf_f_ua ?_) | ((with_reducible (change rf_f _ _ _)); assumption) | ((with_reducible (change rf_f _ _ _)); refine rf_f_step (by assumption) rfl ?_) | ((with_reducible (change rf_f _ _ _)); refine rf_f_F (by assumption) rfl ?_) | ((with_reducible (change px_g1 _ _ _ (_, sx_ua _ _ _ _, _))); refine px_g1_ua rfl (by omega) ?_) | ((with_reducible (change px_g1 _ _ _ _)); exact px_g1_refl _ _ _) | ((with_reducible (change px_g1 _ _ _ _)); assumption) | ((with_reducible (change sx_ua _ _ _ _ _ = _)); refine px_a_ua rfl ?_) | ((with_reducible (change px_RT _ _ _ (sx_uf _ _ _ _, _))); refine px_RT_uf ?_) | ((with_reducible (change px_RT _ _ _ (_, sx_ua _ 69 _ _, _))); refine px_RT_up (by assumption) (by assumption) (by assumption) (by assumption) (by assumption) (by omega) (px_bl_st (by assumption) (by omega)) (by omega)) | ((with_reducible (change px_RT _ _ _ (_, sx_ua _ _ _ _, _))); refine px_RT_ua rfl ?_) | ((with_reducible (change px_RT _ _ 0 _)); exact px_RT_0) | ((with_reducible (change px_RT _ _ _ _)); assumption) | ((with_reducible (change px_RT _ _ _ _)); refine px_RT_F (by assumption) rfl rfl rfl ?_) | ((with_reducible (change px_REx _ _ _)); exact px_REx_mk (by assumption) (by assumption) (by omega) (by omega)) | ((with_reducible (change (_ : sx_S).1 _ _ = _)); refine px_f_F (by assumption) rfl ?_) | ((with_reducible (change (_ : sx_S).2.1 _ = _)); refine px_a_F (by assumption) rfl ?_) | ((with_reducible (change sx_uf _ _ _ _ _ _ = _)); refine px_f_uf rfl ?_) | ((with_reducible (change px_DT _ _ _ (sx_uf _ _ _ _, _))); refine px_DT_uf ?_) | ((with_reducible (change px_DT _ _ _ _)); assumption) | ((with_reducible (change px_DT _ _ _ _)); refine px_DT_F (by assumption) rfl rfl rfl ?_) | ((with_reducible (change px_TK _ _ (sx_uf _ _ _ _, _))); refine px_TK_uf rfl ?_) | ((with_reducible (change px_TK _ _ _)); assumption) | ((with_reducible (change px_TK _ _ _)); refine px_TK_F (by assumption) rfl rfl rfl rfl ?_) | ((with_reducible (change rf_A _ (sx_uf _ _ _ _, _))); refine rf_A_uf ?_) | ((with_reducible (change rf_A _ (_, sx_ua _ _ _ _, _))); refine rf_A_ua rfl ?_) | ((with_reducible (change rf_A _ _)); assumption) | ((with_reducible (change rf_A _ _)); refine rf_A_F (by assumption) rfl ?_) | ((with_reducible (change px_RQ _ _ (sx_uf _ _ _ _, _))); refine px_RQ_uf ?_) | ((with_reducible (change px_RQ _ _ (_, sx_ua _ _ _ _, _))); refine px_RQ_ua rfl ?_) | ((with_reducible (change px_RQ _ _ _)); assumption) | ((with_reducible (change px_RQ _ _ _)); refine px_RQ_F (by assumption) rfl ?_) | fail)
  all_goals (first | trivial | omega | (dsimp only at *; omega) | (obtain ⟨zze, zz1, zz2, zz3, zz4⟩ := zzt (by omega) (by omega); subst_vars; omega) | (exact px_n1_0 (by omega)) | (exact px_n1_nv (by assumption) (by omega)) | (refine px_cf_x (by assumption) (by omega) (by omega) (fun zze zz1 => ?_); obtain ⟨zze', zz1', zz2, zz3, zz4⟩ := zzt (by omega) (by omega); rw [zz1] at zz1'; cases zz1'; subst_vars; rw [← zz2]; first | assumption | (apply_assumption; omega)) | (refine px_n1_up (by assumption) (by omega) (by first | omega | (simp only [sx_uf_if, sx_ua_if, sx_w_t, true_and, and_true, and_self, and_false, false_and, if_true, if_false, reduceIte] at *; omega)) (fun zze zz1 => ?_); obtain ⟨zze', zz1', zz2, zz3, zz4⟩ := zzt (by omega) (by omega); rw [zz1] at zz1'; cases zz1'; subst_vars; rw [← zz2]; first | assumption | (apply_assumption; omega)) | (simp only [sx_uf_if, sx_ua_if, sx_w_t, true_and, and_true, and_self, and_false, false_and, if_true, if_false, reduceIte] at *; omega) | (subst_vars; simp only [sx_uf_if, sx_ua_if, sx_w_t, true_and, and_true, and_self, and_false, false_and, if_true, if_false, reduceIte] at *; omega) | skip)

theorem w_dx_findC_2 {CALL : sx_Ca} {b : Nat → Int} {n : Int} {C : List (Int × qx_T)} {sL : Nat} {sx : Nat → Int32} {Q : Nat → sx_L → sx_S → Prop} {R : Int → sx_S → Prop} (h_dx_sn : ∀ (a0 a1 : Int) (s : sx_S) (K : Int → sx_S → Prop), cx_I s → (0 ≤ a0 ∧ a0 ≤ 239) → (0 ≤ a1 ∧ a1 ≤ 239) → (a0 < s.1 2 5 ∧ a1 < s.1 2 5) → (dz_TN b n s) → (∀ z : Int, (z = 0 ∨ z = 1) → (z ≠ 0 → px_SN b n a0 a1) → (z = 0 → ¬ px_SN b n a0 a1) → K z s) → CALL 105 [.inr (.inl 2), .inl a0, .inl a1] s K) {s : sx_S} {a0 : Int} (hI : cx_I s) (p0 : (0 ≤ a0 ∧ a0 ≤ 239)) (p1 : (dz_TN b n s)) (p2 : (a0 < s.1 2 5)) (p3 : (dz_DL 19 20 21 s C)) (hK : ∀ z : Int, (-1 ≤ z ∧ z ≤ 7) → (z = -1 → px_nv (px_SN b n) C a0) → (z ≠ -1 → (0 ≤ z ∧ z < s.1 19 2) ∧ ∃ x, px_cf (px_SN b n) C a0 z.toNat x) → R z s) {x2 x3 : Int} {mm : Nat} (hm : mm = 17179869184 + (2147483647 - x3).toNat) (i0 : (0 ≤ x2 ∧ x2 ≤ 239)) (i1 : (0 ≤ x3 ∧ x3 ≤ 8)) (i2 : (x2 = a0)) (i3 : (x3 ≤ s.1 19 2)) (i4 : (px_n1 (px_SN b n) C a0 x3)) (hQ2 : ∀ (x2 x3 : Int) (_ : True), (0 ≤ x2 ∧ x2 ≤ 239) → (0 ≤ x3 ∧ x3 ≤ 8) → (x2 = a0) → (x3 ≤ s.1 19 2) → (px_n1 (px_SN b n) C a0 x3) → (17179869184 + (2147483647 - x3).toNat < mm) → Q 2 [(0, .inr (.inl 19)), (1, .inr (.inl 2)), (2, .inl x2), (3, .inl x3)] s) : sx_wp true sL sx eX4_find CALL [(2, [0, 1, 2, 3])] Q R 400 2 [(0, .inr (.inl 19)), (1, .inr (.inl 2)), (2, .inl x2), (3, .inl x3)] [] s := by
  have zzl := (p3 trivial).1
  have zzm := (((p1 trivial).2.2) trivial).1
  have zzt := dz_DL_tok p3 (k := x3)
  repeat' (first | (with_reducible intro _) | (refine And.intro ?_ ?_) | (refine hK _ ?_ ?_ ?_) | (refine h_dx_sn _ _ _ _ ?_ ?_ ?_ ?_ ?_ ?_) | (refine hQ2 _ _ trivial ?_ ?_ ?_ ?_ ?_ ?_))
  all_goals (try dsimp only)
  repeat' (first | (with_reducible assumption) | ((with_reducible (change cx_I (sx_uf _ _ _ _, _))); refine cx_I_uf rfl rfl ?_ ?_ ?_) | ((with_reducible (change cx_I (_, sx_ua _ _ _ _, _))); refine cx_I_ua rfl rfl ?_ ?_ ?_) | ((with_reducible (change cx_I (_, sx_ua _ 16 _ _, _))); refine cx_I_ari ?_ ?_ ?_) | ((with_reducible (change cx_I (sx_uf _ 11 6 _, _))); refine cx_I_ufA rfl ?_ ?_ ?_ ?_) | (with_reducible exact cx_F_refl _ _) | ((with_reducible (change cx_F _ _ (sx_uf _ _ _ _, _))); refine cx_F_uf rfl ?_) | ((with_reducible (change cx_F _ _ (_, sx_ua _ _ _ _, _))); refine cx_F_ua rfl ?_) | ((with_reducible (change cx_I (_, sx_cpy _ _ _ _ _ _, _))); refine cx_I_cpy rfl rfl rfl (by decide) ?_) | ((with_reducible (change cx_F _ _ (_, sx_cpy _ _ _ _ _ _, _))); refine cx_F_cpy rfl ?_) | ((with_reducible (change cx_F _ _ _)); refine cx_F_step (by assumption) rfl ?_) | ((with_reducible (change rf_f _ _ (sx_uf _ 66 _ _, _))); refine rf_f_uf rfl ?_) | ((with_reducible (change rf_f _ _ _)); exact (fun _ _ => rfl)) | ((with_reducible (change rf_f _ _ (_, sx_ua _ _ _ _, _))); refine rf_f_ua ?_) | ((with_reducible (change rf_f _ _ _)); assumption) | ((with_reducible (change rf_f _ _ _)); refine rf_f_step (by assumption) rfl ?_) | ((with_reducible (change rf_f _ _ _)); refine rf_f_F (by assumption) rfl ?_) | ((with_reducible (change px_g1 _ _ _ (_, sx_ua _ _ _ _, _))); refine px_g1_ua rfl (by omega) ?_) | ((with_reducible (change px_g1 _ _ _ _)); exact px_g1_refl _ _ _) | ((with_reducible (change px_g1 _ _ _ _)); assumption) | ((with_reducible (change sx_ua _ _ _ _ _ = _)); refine px_a_ua rfl ?_) | ((with_reducible (change px_RT _ _ _ (sx_uf _ _ _ _, _))); refine px_RT_uf ?_) | ((with_reducible (change px_RT _ _ _ (_, sx_ua _ 69 _ _, _))); refine px_RT_up (by assumption) (by assumption) (by assumption) (by assumption) (by assumption) (by omega) (px_bl_st (by assumption) (by omega)) (by omega)) | ((with_reducible (change px_RT _ _ _ (_, sx_ua _ _ _ _, _))); refine px_RT_ua rfl ?_) | ((with_reducible (change px_RT _ _ 0 _)); exact px_RT_0) | ((with_reducible (change px_RT _ _ _ _)); assumption) | ((with_reducible (change px_RT _ _ _ _)); refine px_RT_F (by assumption) rfl rfl rfl ?_) | ((with_reducible (change px_REx _ _ _)); exact px_REx_mk (by assumption) (by assumption) (by omega) (by omega)) | ((with_reducible (change (_ : sx_S).1 _ _ = _)); refine px_f_F (by assumption) rfl ?_) | ((with_reducible (change (_ : sx_S).2.1 _ = _)); refine px_a_F (by assumption) rfl ?_) | ((with_reducible (change sx_uf _ _ _ _ _ _ = _)); refine px_f_uf rfl ?_) | ((with_reducible (change px_DT _ _ _ (sx_uf _ _ _ _, _))); refine px_DT_uf ?_) | ((with_reducible (change px_DT _ _ _ _)); assumption) | ((with_reducible (change px_DT _ _ _ _)); refine px_DT_F (by assumption) rfl rfl rfl ?_) | ((with_reducible (change px_TK _ _ (sx_uf _ _ _ _, _))); refine px_TK_uf rfl ?_) | ((with_reducible (change px_TK _ _ _)); assumption) | ((with_reducible (change px_TK _ _ _)); refine px_TK_F (by assumption) rfl rfl rfl rfl ?_) | ((with_reducible (change rf_A _ (sx_uf _ _ _ _, _))); refine rf_A_uf ?_) | ((with_reducible (change rf_A _ (_, sx_ua _ _ _ _, _))); refine rf_A_ua rfl ?_) | ((with_reducible (change rf_A _ _)); assumption) | ((with_reducible (change rf_A _ _)); refine rf_A_F (by assumption) rfl ?_) | ((with_reducible (change px_RQ _ _ (sx_uf _ _ _ _, _))); refine px_RQ_uf ?_) | ((with_reducible (change px_RQ _ _ (_, sx_ua _ _ _ _, _))); refine px_RQ_ua rfl ?_) | ((with_reducible (change px_RQ _ _ _)); assumption) | ((with_reducible (change px_RQ _ _ _)); refine px_RQ_F (by assumption) rfl ?_) | fail)
  all_goals (first | trivial | omega | (dsimp only at *; omega) | (obtain ⟨zze, zz1, zz2, zz3, zz4⟩ := zzt (by omega) (by omega); subst_vars; omega) | (exact px_n1_0 (by omega)) | (exact px_n1_nv (by assumption) (by omega)) | (refine px_cf_x (by assumption) (by omega) (by omega) (fun zze zz1 => ?_); obtain ⟨zze', zz1', zz2, zz3, zz4⟩ := zzt (by omega) (by omega); rw [zz1] at zz1'; cases zz1'; subst_vars; rw [← zz2]; first | assumption | (apply_assumption; omega)) | (refine px_n1_up (by assumption) (by omega) (by first | omega | (simp only [sx_uf_if, sx_ua_if, sx_w_t, true_and, and_true, and_self, and_false, false_and, if_true, if_false, reduceIte] at *; omega)) (fun zze zz1 => ?_); obtain ⟨zze', zz1', zz2, zz3, zz4⟩ := zzt (by omega) (by omega); rw [zz1] at zz1'; cases zz1'; subst_vars; rw [← zz2]; first | assumption | (apply_assumption; omega)) | (simp only [sx_uf_if, sx_ua_if, sx_w_t, true_and, and_true, and_self, and_false, false_and, if_true, if_false, reduceIte] at *; omega) | (subst_vars; simp only [sx_uf_if, sx_ua_if, sx_w_t, true_and, and_true, and_self, and_false, false_and, if_true, if_false, reduceIte] at *; omega) | skip)

theorem c_dx_findC {sL : Nat} {sx : Nat → Int32} (hsL : sL ≤ 3072) (d : Nat) (hd : 3 ≤ d) (b : Nat → Int) (n : Int) (C : List (Int × qx_T)) : ∀ (a0 : Int) (s : sx_S) (K : Int → sx_S → Prop), cx_I s → (0 ≤ a0 ∧ a0 ≤ 239) → (dz_TN b n s) → (a0 < s.1 2 5) → (dz_DL 19 20 21 s C) → (∀ z : Int, (-1 ≤ z ∧ z ≤ 7) → (z = -1 → px_nv (px_SN b n) C a0) → (z ≠ -1 → (0 ≤ z ∧ z < s.1 19 2) ∧ ∃ x, px_cf (px_SN b n) C a0 z.toNat x) → K z s) → sx_C sL sx d 54 [.inr (.inl 19), .inr (.inl 2), .inl a0] s K := by
  intro a0 s K hI p0 p1 p2 p3 hK
  obtain ⟨d, rfl⟩ : ∃ e, d = e + 2 := ⟨d - 2, by omega⟩
  refine sx_methL (wr := true) (n := 400) (n' := 400) (stop := [(2, [0, 1, 2, 3])]) (fun nn pc ls u => (pc = 2 ∧ ∃ (x2 x3 : Int), ls = [(0, .inr (.inl 19)), (1, .inr (.inl 2)), (2, .inl x2), (3, .inl x3)] ∧ u = s ∧ (0 ≤ x2 ∧ x2 ≤ 239) ∧ (0 ≤ x3 ∧ x3 ≤ 8) ∧ (x2 = a0) ∧ (x3 ≤ s.1 19 2) ∧ (px_n1 (px_SN b n) C a0 x3) ∧ nn = 17179869184 + (2147483647 - x3).toNat)) hsL (e := eX4_find) rfl ?_ ?_
  · exact w_dx_findC (c_dx_sn hsL (d + 1) (by omega) b n) hI p0 p1 p2 p3 hK (fun x2 x3 _ i0 i1 i2 i3 i4 => ⟨_, ⟨rfl, x2, x3, rfl, rfl, i0, i1, i2, i3, i4, rfl⟩⟩)
  · rintro nn pc ls u (⟨rfl, x2, x3, rfl, rfl, i0, i1, i2, i3, i4, rfl⟩)
    · exact w_dx_findC_2 (c_dx_sn hsL (d + 1) (by omega) b n) hI p0 p1 p2 p3 hK rfl i0 i1 i2 i3 i4 (fun x2 x3 _ i0 i1 i2 i3 i4 hm => ⟨_, hm, ⟨rfl, x2, x3, rfl, rfl, i0, i1, i2, i3, i4, rfl⟩⟩)

theorem w_dx_findM {CALL : sx_Ca} {b : Nat → Int} {n : Int} {M : List (Int × qx_T)} {sL : Nat} {sx : Nat → Int32} {Q : Nat → sx_L → sx_S → Prop} {R : Int → sx_S → Prop} (h_dx_sn : ∀ (a0 a1 : Int) (s : sx_S) (K : Int → sx_S → Prop), cx_I s → (0 ≤ a0 ∧ a0 ≤ 239) → (0 ≤ a1 ∧ a1 ≤ 239) → (a0 < s.1 2 5 ∧ a1 < s.1 2 5) → (dz_TN b n s) → (∀ z : Int, (z = 0 ∨ z = 1) → (z ≠ 0 → px_SN b n a0 a1) → (z = 0 → ¬ px_SN b n a0 a1) → K z s) → CALL 105 [.inr (.inl 2), .inl a0, .inl a1] s K) {s : sx_S} {a0 : Int} (hI : cx_I s) (p0 : (0 ≤ a0 ∧ a0 ≤ 239)) (p1 : (dz_TN b n s)) (p2 : (a0 < s.1 2 5)) (p3 : (dz_DL 22 23 24 s M)) (hK : ∀ z : Int, (-1 ≤ z ∧ z ≤ 4) → (z = -1 → px_nv (px_SN b n) M a0) → (z ≠ -1 → (0 ≤ z ∧ z < s.1 22 2) ∧ ∃ x, px_cf (px_SN b n) M a0 z.toNat x) → R z s) (hQ2 : ∀ (x2 x3 : Int) (_ : True), (0 ≤ x2 ∧ x2 ≤ 239) → (0 ≤ x3 ∧ x3 ≤ 5) → (x2 = a0) → (x3 ≤ s.1 22 2) → (px_n1 (px_SN b n) M a0 x3) → Q 2 [(0, .inr (.inl 22)), (1, .inr (.inl 2)), (2, .inl x2), (3, .inl x3)] s) : sx_wp true sL sx eX4_find CALL [(2, [0, 1, 2, 3])] Q R 400 0 (sx_argsF 0 [.inr (.inl 22), .inr (.inl 2), .inl a0]) [] s := by
  have zzl := (p3 trivial).1
  have zzm := (((p1 trivial).2.2) trivial).1
  repeat' (first | (with_reducible intro _) | (refine And.intro ?_ ?_) | (refine hK _ ?_ ?_ ?_) | (refine h_dx_sn _ _ _ _ ?_ ?_ ?_ ?_ ?_ ?_) | (refine hQ2 _ _ trivial ?_ ?_ ?_ ?_ ?_))
  all_goals (try dsimp only)
  repeat' (first | (with_reducible assumption) | ((with_reducible (change cx_I (sx_uf _ _ _ _, _))); refine cx_I_uf rfl rfl ?_ ?_ ?_) | ((with_reducible (change cx_I (_, sx_ua _ _ _ _, _))); refine cx_I_ua rfl rfl ?_ ?_ ?_) | ((with_reducible (change cx_I (_, sx_ua _ 16 _ _, _))); refine cx_I_ari ?_ ?_ ?_) | ((with_reducible (change cx_I (sx_uf _ 11 6 _, _))); refine cx_I_ufA rfl ?_ ?_ ?_ ?_) | (with_reducible exact cx_F_refl _ _) | ((with_reducible (change cx_F _ _ (sx_uf _ _ _ _, _))); refine cx_F_uf rfl ?_) | ((with_reducible (change cx_F _ _ (_, sx_ua _ _ _ _, _))); refine cx_F_ua rfl ?_) | ((with_reducible (change cx_I (_, sx_cpy _ _ _ _ _ _, _))); refine cx_I_cpy rfl rfl rfl (by decide) ?_) | ((with_reducible (change cx_F _ _ (_, sx_cpy _ _ _ _ _ _, _))); refine cx_F_cpy rfl ?_) | ((with_reducible (change cx_F _ _ _)); refine cx_F_step (by assumption) rfl ?_) | ((with_reducible (change rf_f _ _ (sx_uf _ 66 _ _, _))); refine rf_f_uf rfl ?_) | ((with_reducible (change rf_f _ _ _)); exact (fun _ _ => rfl)) | ((with_reducible (change rf_f _ _ (_, sx_ua _ _ _ _, _))); refine rf_f_ua ?_) | ((with_reducible (change rf_f _ _ _)); assumption) | ((with_reducible (change rf_f _ _ _)); refine rf_f_step (by assumption) rfl ?_) | ((with_reducible (change rf_f _ _ _)); refine rf_f_F (by assumption) rfl ?_) | ((with_reducible (change px_g1 _ _ _ (_, sx_ua _ _ _ _, _))); refine px_g1_ua rfl (by omega) ?_) | ((with_reducible (change px_g1 _ _ _ _)); exact px_g1_refl _ _ _) | ((with_reducible (change px_g1 _ _ _ _)); assumption) | ((with_reducible (change sx_ua _ _ _ _ _ = _)); refine px_a_ua rfl ?_) | ((with_reducible (change px_RT _ _ _ (sx_uf _ _ _ _, _))); refine px_RT_uf ?_) | ((with_reducible (change px_RT _ _ _ (_, sx_ua _ 69 _ _, _))); refine px_RT_up (by assumption) (by assumption) (by assumption) (by assumption) (by assumption) (by omega) (px_bl_st (by assumption) (by omega)) (by omega)) | ((with_reducible (change px_RT _ _ _ (_, sx_ua _ _ _ _, _))); refine px_RT_ua rfl ?_) | ((with_reducible (change px_RT _ _ 0 _)); exact px_RT_0) | ((with_reducible (change px_RT _ _ _ _)); assumption) | ((with_reducible (change px_RT _ _ _ _)); refine px_RT_F (by assumption) rfl rfl rfl ?_) | ((with_reducible (change px_REx _ _ _)); exact px_REx_mk (by assumption) (by assumption) (by omega) (by omega)) | ((with_reducible (change (_ : sx_S).1 _ _ = _)); refine px_f_F (by assumption) rfl ?_) | ((with_reducible (change (_ : sx_S).2.1 _ = _)); refine px_a_F (by assumption) rfl ?_) | ((with_reducible (change sx_uf _ _ _ _ _ _ = _)); refine px_f_uf rfl ?_) | ((with_reducible (change px_DT _ _ _ (sx_uf _ _ _ _, _))); refine px_DT_uf ?_) | ((with_reducible (change px_DT _ _ _ _)); assumption) | ((with_reducible (change px_DT _ _ _ _)); refine px_DT_F (by assumption) rfl rfl rfl ?_) | ((with_reducible (change px_TK _ _ (sx_uf _ _ _ _, _))); refine px_TK_uf rfl ?_) | ((with_reducible (change px_TK _ _ _)); assumption) | ((with_reducible (change px_TK _ _ _)); refine px_TK_F (by assumption) rfl rfl rfl rfl ?_) | ((with_reducible (change rf_A _ (sx_uf _ _ _ _, _))); refine rf_A_uf ?_) | ((with_reducible (change rf_A _ (_, sx_ua _ _ _ _, _))); refine rf_A_ua rfl ?_) | ((with_reducible (change rf_A _ _)); assumption) | ((with_reducible (change rf_A _ _)); refine rf_A_F (by assumption) rfl ?_) | ((with_reducible (change px_RQ _ _ (sx_uf _ _ _ _, _))); refine px_RQ_uf ?_) | ((with_reducible (change px_RQ _ _ (_, sx_ua _ _ _ _, _))); refine px_RQ_ua rfl ?_) | ((with_reducible (change px_RQ _ _ _)); assumption) | ((with_reducible (change px_RQ _ _ _)); refine px_RQ_F (by assumption) rfl ?_) | fail)
  all_goals (first | trivial | omega | (dsimp only at *; omega) | (obtain ⟨zze, zz1, zz2, zz3, zz4⟩ := zzt (by omega) (by omega); subst_vars; omega) | (exact px_n1_0 (by omega)) | (exact px_n1_nv (by assumption) (by omega)) | (refine px_cf_x (by assumption) (by omega) (by omega) (fun zze zz1 => ?_); obtain ⟨zze', zz1', zz2, zz3, zz4⟩ := zzt (by omega) (by omega); rw [zz1] at zz1'; cases zz1'; subst_vars; rw [← zz2]; first | assumption | (apply_assumption; omega)) | (refine px_n1_up (by assumption) (by omega) (by first | omega | (simp only [sx_uf_if, sx_ua_if, sx_w_t, true_and, and_true, and_self, and_false, false_and, if_true, if_false, reduceIte] at *; omega)) (fun zze zz1 => ?_); obtain ⟨zze', zz1', zz2, zz3, zz4⟩ := zzt (by omega) (by omega); rw [zz1] at zz1'; cases zz1'; subst_vars; rw [← zz2]; first | assumption | (apply_assumption; omega)) | (simp only [sx_uf_if, sx_ua_if, sx_w_t, true_and, and_true, and_self, and_false, false_and, if_true, if_false, reduceIte] at *; omega) | (subst_vars; simp only [sx_uf_if, sx_ua_if, sx_w_t, true_and, and_true, and_self, and_false, false_and, if_true, if_false, reduceIte] at *; omega) | skip)

theorem w_dx_findM_2 {CALL : sx_Ca} {b : Nat → Int} {n : Int} {M : List (Int × qx_T)} {sL : Nat} {sx : Nat → Int32} {Q : Nat → sx_L → sx_S → Prop} {R : Int → sx_S → Prop} (h_dx_sn : ∀ (a0 a1 : Int) (s : sx_S) (K : Int → sx_S → Prop), cx_I s → (0 ≤ a0 ∧ a0 ≤ 239) → (0 ≤ a1 ∧ a1 ≤ 239) → (a0 < s.1 2 5 ∧ a1 < s.1 2 5) → (dz_TN b n s) → (∀ z : Int, (z = 0 ∨ z = 1) → (z ≠ 0 → px_SN b n a0 a1) → (z = 0 → ¬ px_SN b n a0 a1) → K z s) → CALL 105 [.inr (.inl 2), .inl a0, .inl a1] s K) {s : sx_S} {a0 : Int} (hI : cx_I s) (p0 : (0 ≤ a0 ∧ a0 ≤ 239)) (p1 : (dz_TN b n s)) (p2 : (a0 < s.1 2 5)) (p3 : (dz_DL 22 23 24 s M)) (hK : ∀ z : Int, (-1 ≤ z ∧ z ≤ 4) → (z = -1 → px_nv (px_SN b n) M a0) → (z ≠ -1 → (0 ≤ z ∧ z < s.1 22 2) ∧ ∃ x, px_cf (px_SN b n) M a0 z.toNat x) → R z s) {x2 x3 : Int} {mm : Nat} (hm : mm = 17179869184 + (2147483647 - x3).toNat) (i0 : (0 ≤ x2 ∧ x2 ≤ 239)) (i1 : (0 ≤ x3 ∧ x3 ≤ 5)) (i2 : (x2 = a0)) (i3 : (x3 ≤ s.1 22 2)) (i4 : (px_n1 (px_SN b n) M a0 x3)) (hQ2 : ∀ (x2 x3 : Int) (_ : True), (0 ≤ x2 ∧ x2 ≤ 239) → (0 ≤ x3 ∧ x3 ≤ 5) → (x2 = a0) → (x3 ≤ s.1 22 2) → (px_n1 (px_SN b n) M a0 x3) → (17179869184 + (2147483647 - x3).toNat < mm) → Q 2 [(0, .inr (.inl 22)), (1, .inr (.inl 2)), (2, .inl x2), (3, .inl x3)] s) : sx_wp true sL sx eX4_find CALL [(2, [0, 1, 2, 3])] Q R 400 2 [(0, .inr (.inl 22)), (1, .inr (.inl 2)), (2, .inl x2), (3, .inl x3)] [] s := by
  have zzl := (p3 trivial).1
  have zzm := (((p1 trivial).2.2) trivial).1
  have zzt := dz_DL_tok p3 (k := x3)
  repeat' (first | (with_reducible intro _) | (refine And.intro ?_ ?_) | (refine hK _ ?_ ?_ ?_) | (refine h_dx_sn _ _ _ _ ?_ ?_ ?_ ?_ ?_ ?_) | (refine hQ2 _ _ trivial ?_ ?_ ?_ ?_ ?_ ?_))
  all_goals (try dsimp only)
  repeat' (first | (with_reducible assumption) | ((with_reducible (change cx_I (sx_uf _ _ _ _, _))); refine cx_I_uf rfl rfl ?_ ?_ ?_) | ((with_reducible (change cx_I (_, sx_ua _ _ _ _, _))); refine cx_I_ua rfl rfl ?_ ?_ ?_) | ((with_reducible (change cx_I (_, sx_ua _ 16 _ _, _))); refine cx_I_ari ?_ ?_ ?_) | ((with_reducible (change cx_I (sx_uf _ 11 6 _, _))); refine cx_I_ufA rfl ?_ ?_ ?_ ?_) | (with_reducible exact cx_F_refl _ _) | ((with_reducible (change cx_F _ _ (sx_uf _ _ _ _, _))); refine cx_F_uf rfl ?_) | ((with_reducible (change cx_F _ _ (_, sx_ua _ _ _ _, _))); refine cx_F_ua rfl ?_) | ((with_reducible (change cx_I (_, sx_cpy _ _ _ _ _ _, _))); refine cx_I_cpy rfl rfl rfl (by decide) ?_) | ((with_reducible (change cx_F _ _ (_, sx_cpy _ _ _ _ _ _, _))); refine cx_F_cpy rfl ?_) | ((with_reducible (change cx_F _ _ _)); refine cx_F_step (by assumption) rfl ?_) | ((with_reducible (change rf_f _ _ (sx_uf _ 66 _ _, _))); refine rf_f_uf rfl ?_) | ((with_reducible (change rf_f _ _ _)); exact (fun _ _ => rfl)) | ((with_reducible (change rf_f _ _ (_, sx_ua _ _ _ _, _))); refine rf_f_ua ?_) | ((with_reducible (change rf_f _ _ _)); assumption) | ((with_reducible (change rf_f _ _ _)); refine rf_f_step (by assumption) rfl ?_) | ((with_reducible (change rf_f _ _ _)); refine rf_f_F (by assumption) rfl ?_) | ((with_reducible (change px_g1 _ _ _ (_, sx_ua _ _ _ _, _))); refine px_g1_ua rfl (by omega) ?_) | ((with_reducible (change px_g1 _ _ _ _)); exact px_g1_refl _ _ _) | ((with_reducible (change px_g1 _ _ _ _)); assumption) | ((with_reducible (change sx_ua _ _ _ _ _ = _)); refine px_a_ua rfl ?_) | ((with_reducible (change px_RT _ _ _ (sx_uf _ _ _ _, _))); refine px_RT_uf ?_) | ((with_reducible (change px_RT _ _ _ (_, sx_ua _ 69 _ _, _))); refine px_RT_up (by assumption) (by assumption) (by assumption) (by assumption) (by assumption) (by omega) (px_bl_st (by assumption) (by omega)) (by omega)) | ((with_reducible (change px_RT _ _ _ (_, sx_ua _ _ _ _, _))); refine px_RT_ua rfl ?_) | ((with_reducible (change px_RT _ _ 0 _)); exact px_RT_0) | ((with_reducible (change px_RT _ _ _ _)); assumption) | ((with_reducible (change px_RT _ _ _ _)); refine px_RT_F (by assumption) rfl rfl rfl ?_) | ((with_reducible (change px_REx _ _ _)); exact px_REx_mk (by assumption) (by assumption) (by omega) (by omega)) | ((with_reducible (change (_ : sx_S).1 _ _ = _)); refine px_f_F (by assumption) rfl ?_) | ((with_reducible (change (_ : sx_S).2.1 _ = _)); refine px_a_F (by assumption) rfl ?_) | ((with_reducible (change sx_uf _ _ _ _ _ _ = _)); refine px_f_uf rfl ?_) | ((with_reducible (change px_DT _ _ _ (sx_uf _ _ _ _, _))); refine px_DT_uf ?_) | ((with_reducible (change px_DT _ _ _ _)); assumption) | ((with_reducible (change px_DT _ _ _ _)); refine px_DT_F (by assumption) rfl rfl rfl ?_) | ((with_reducible (change px_TK _ _ (sx_uf _ _ _ _, _))); refine px_TK_uf rfl ?_) | ((with_reducible (change px_TK _ _ _)); assumption) | ((with_reducible (change px_TK _ _ _)); refine px_TK_F (by assumption) rfl rfl rfl rfl ?_) | ((with_reducible (change rf_A _ (sx_uf _ _ _ _, _))); refine rf_A_uf ?_) | ((with_reducible (change rf_A _ (_, sx_ua _ _ _ _, _))); refine rf_A_ua rfl ?_) | ((with_reducible (change rf_A _ _)); assumption) | ((with_reducible (change rf_A _ _)); refine rf_A_F (by assumption) rfl ?_) | ((with_reducible (change px_RQ _ _ (sx_uf _ _ _ _, _))); refine px_RQ_uf ?_) | ((with_reducible (change px_RQ _ _ (_, sx_ua _ _ _ _, _))); refine px_RQ_ua rfl ?_) | ((with_reducible (change px_RQ _ _ _)); assumption) | ((with_reducible (change px_RQ _ _ _)); refine px_RQ_F (by assumption) rfl ?_) | fail)
  all_goals (first | trivial | omega | (dsimp only at *; omega) | (obtain ⟨zze, zz1, zz2, zz3, zz4⟩ := zzt (by omega) (by omega); subst_vars; omega) | (exact px_n1_0 (by omega)) | (exact px_n1_nv (by assumption) (by omega)) | (refine px_cf_x (by assumption) (by omega) (by omega) (fun zze zz1 => ?_); obtain ⟨zze', zz1', zz2, zz3, zz4⟩ := zzt (by omega) (by omega); rw [zz1] at zz1'; cases zz1'; subst_vars; rw [← zz2]; first | assumption | (apply_assumption; omega)) | (refine px_n1_up (by assumption) (by omega) (by first | omega | (simp only [sx_uf_if, sx_ua_if, sx_w_t, true_and, and_true, and_self, and_false, false_and, if_true, if_false, reduceIte] at *; omega)) (fun zze zz1 => ?_); obtain ⟨zze', zz1', zz2, zz3, zz4⟩ := zzt (by omega) (by omega); rw [zz1] at zz1'; cases zz1'; subst_vars; rw [← zz2]; first | assumption | (apply_assumption; omega)) | (simp only [sx_uf_if, sx_ua_if, sx_w_t, true_and, and_true, and_self, and_false, false_and, if_true, if_false, reduceIte] at *; omega) | (subst_vars; simp only [sx_uf_if, sx_ua_if, sx_w_t, true_and, and_true, and_self, and_false, false_and, if_true, if_false, reduceIte] at *; omega) | skip)

theorem c_dx_findM {sL : Nat} {sx : Nat → Int32} (hsL : sL ≤ 3072) (d : Nat) (hd : 3 ≤ d) (b : Nat → Int) (n : Int) (M : List (Int × qx_T)) : ∀ (a0 : Int) (s : sx_S) (K : Int → sx_S → Prop), cx_I s → (0 ≤ a0 ∧ a0 ≤ 239) → (dz_TN b n s) → (a0 < s.1 2 5) → (dz_DL 22 23 24 s M) → (∀ z : Int, (-1 ≤ z ∧ z ≤ 4) → (z = -1 → px_nv (px_SN b n) M a0) → (z ≠ -1 → (0 ≤ z ∧ z < s.1 22 2) ∧ ∃ x, px_cf (px_SN b n) M a0 z.toNat x) → K z s) → sx_C sL sx d 54 [.inr (.inl 22), .inr (.inl 2), .inl a0] s K := by
  intro a0 s K hI p0 p1 p2 p3 hK
  obtain ⟨d, rfl⟩ : ∃ e, d = e + 2 := ⟨d - 2, by omega⟩
  refine sx_methL (wr := true) (n := 400) (n' := 400) (stop := [(2, [0, 1, 2, 3])]) (fun nn pc ls u => (pc = 2 ∧ ∃ (x2 x3 : Int), ls = [(0, .inr (.inl 22)), (1, .inr (.inl 2)), (2, .inl x2), (3, .inl x3)] ∧ u = s ∧ (0 ≤ x2 ∧ x2 ≤ 239) ∧ (0 ≤ x3 ∧ x3 ≤ 5) ∧ (x2 = a0) ∧ (x3 ≤ s.1 22 2) ∧ (px_n1 (px_SN b n) M a0 x3) ∧ nn = 17179869184 + (2147483647 - x3).toNat)) hsL (e := eX4_find) rfl ?_ ?_
  · exact w_dx_findM (c_dx_sn hsL (d + 1) (by omega) b n) hI p0 p1 p2 p3 hK (fun x2 x3 _ i0 i1 i2 i3 i4 => ⟨_, ⟨rfl, x2, x3, rfl, rfl, i0, i1, i2, i3, i4, rfl⟩⟩)
  · rintro nn pc ls u (⟨rfl, x2, x3, rfl, rfl, i0, i1, i2, i3, i4, rfl⟩)
    · exact w_dx_findM_2 (c_dx_sn hsL (d + 1) (by omega) b n) hI p0 p1 p2 p3 hK rfl i0 i1 i2 i3 i4 (fun x2 x3 _ i0 i1 i2 i3 i4 hm => ⟨_, hm, ⟨rfl, x2, x3, rfl, rfl, i0, i1, i2, i3, i4, rfl⟩⟩)
end
section
/-- the same int -/
theorem sx_vo_int {z1 z2 : Int} (h : sx_vo (some .int) z1 = sx_vo (some .int) z2) (h1 : -2147483648 ≤ z1 ∧ z1 ≤ 2147483647) (h2 : -2147483648 ≤ z2 ∧ z2 ≤ 2147483647) : z1 = z2 := by
  have q : (some (Value.int (Int32.ofInt z1)) : Option Value) = some (Value.int (Int32.ofInt z2)) := h
  injection q with q
  injection q with q
  have q3 := congrArg Int32.toInt q
  rw [sx_toInt ⟨by omega, by omega⟩, sx_toInt ⟨by omega, by omega⟩] at q3
  exact q3
end
section
/-! ===== the desk's terms: asVariable, by depth ===== -/
theorem st_dz_asv {sL : Nat} {sx : Nat → Int32} (hsL : sL ≤ 3072) (g : Nat) (hg : g ≤ 5) {d : Nat} (hd : 3 ≤ d) (h_rec : ∀ g' : Nat, g = g' + 1 → ∀ (N : rf_N) (a0 a1 : Int) (s : sx_S) (R : Int → sx_S → Prop), cx_I s → a1 = 5 - ((g' : Nat) : Int) → dz_nd s N a0 → dz_ar (s.2.1 16) N → (∀ z : Int, (-2147483648 ≤ z ∧ z ≤ 2147483647) → (z = -1 ∧ ∀ v, ¬ (dz_av N).1 g' [] v) ∨ (0 ≤ z ∧ (dz_av N).1 g' [] z) → R z s) → sx_C sL sx (d + 1) 98 [.inr (.inl 11), .inl a0, .inl a1] s R) : ∀ (N : rf_N) (a0 a1 : Int) (s : sx_S) (R : Int → sx_S → Prop), cx_I s → a1 = 5 - ((g : Nat) : Int) → dz_nd s N a0 → dz_ar (s.2.1 16) N → (∀ z : Int, (-2147483648 ≤ z ∧ z ≤ 2147483647) → (z = -1 ∧ ∀ v, ¬ (dz_av N).1 g [] v) ∨ (0 ≤ z ∧ (dz_av N).1 g [] z) → R z s) → sx_C sL sx (d + 2) 98 [.inr (.inl 11), .inl a0, .inl a1] s R := by
  intro N a0 a1 s R hI pd hN hA hK
  have h0 := hI.fld 11 6 (by decide) rfl
  refine sx_methL (wr := true) (n := 400) (n' := 400) (stop := [(8, [0, 1, 2, 3, 4, 5]), (69, [0, 2, 3, 4, 5, 6])]) (fun nn pc ls u => u = s ∧ ((pc = 8 ∧ ∃ (x3 x5 : Int) (M : rf_N), ls = [(0, .inr (.inl 11)), (1, .inl a0), (2, .inl a1), (3, .inl x3), (4, .inl x5), (5, .inl x5)] ∧ dz_nd s M x3 ∧ dz_ar (s.2.1 16) M ∧ (0 ≤ x5 ∧ x5 ≤ 4) ∧ rf_dn M x5.toNat N ∧ (∀ v, (dz_av N).1 g [] v ↔ (dz_av M).1 g (rf_rf x5.toNat N) v) ∧ nn = (100 - x5).toNat) ∨ (pc = 69 ∧ ∃ (x3 x4 x5 x6 : Int) (j : Nat) (k : Int × Int) (f b M : rf_N) (g' : Nat), ls = [(0, .inr (.inl 11)), (2, .inl a1), (3, .inl x3), (4, .inl x4), (5, .inl x5), (6, .inl x6)] ∧ g = g' + 1 ∧ dz_nd s (.inner j k () f b) x3 ∧ dz_ar (s.2.1 16) (.inner j k () f b) ∧ k.1 = 2 ∧ (rf_len f : Int) = x4 ∧ (0 ≤ x6 ∧ x6 ≤ x4 ∧ x4 ≤ 4) ∧ dz_nd s M x5 ∧ dz_ar (s.2.1 16) M ∧ rf_dn (.inner j k () f b) (x4 - x6).toNat M ∧ (∀ v, (dz_av N).1 g [] v ↔ (k.2 = v ∧ (dz_av (dz_dr x6.toNat f)).2 g' (rf_rf (x4 - x6).toNat M))) ∧ nn = (x4 - x6).toNat))) hsL (e := eX7_asVariable) rfl ?_ ?_
  · exact w_av ⟨_, rfl, Or.inl ⟨rfl, a0, 0, N, rfl, hN, hA, by omega, by cases N <;> rfl, fun v => Iff.rfl, rfl⟩⟩
  · rintro nn pc ls u ⟨rfl, ⟨rfl, x3, x5, M, rfl, i1, i2, i3, i4, i5, rfl⟩ | ⟨rfl, x3, x4, x5, x6, j, k, f, b, M, g', rfl, eg, i1, i2, i3, i4, i5, i6, i7, i8, i9, rfl⟩⟩
    · cases M with
      | leaf =>
        have e3 : x3 = -1 := i1
        subst e3
        exact w_av_8n (c_dz_kind hsL (d + 1) (by omega)) hI (by omega) i3 (hK _ (by omega) (Or.inl ⟨rfl, fun v h => (i5 v).mp h⟩))
      | inner j k v0 f b =>
        have i1' := i1
        obtain ⟨⟨e0, e1⟩, ⟨e2, e3⟩, e4, e5⟩ := i1'
        obtain ⟨⟨b1, b2, b3⟩, b4, b5⟩ := i2
        have ej : x3.toNat = j := by omega
        have hl := rf_rf_len i4
        refine w_av_8 (c_dz_kind hsL (d + 1) (by omega)) (c_dz_body hsL (d + 1) (by omega)) (c_dz_arity hsL (d + 1) (by omega)) hI (by omega) (by omega) i3 ?_ ?_ ?_
        · intro hx hk
          rw [ej, e2] at hk
          refine ⟨_, ?_, rfl, Or.inl ⟨rfl, _, x5 + 1, f, rfl, by rw [ej]; exact e4, b4, by omega, ?_, ?_, rfl⟩⟩
          · omega
          · rw [show (x5 + 1).toNat = x5.toNat + 1 by omega]
            exact rf_dn_snoc hk i4
          · intro v
            rw [i5 v, show (x5 + 1).toNat = x5.toNat + 1 by omega, rf_rf_snoc i4]
            constructor
            · rintro (⟨_, _, q⟩ | ⟨q, _⟩)
              · exact q
              · omega
            · exact fun q => Or.inl ⟨hk, by omega, q⟩
        · intro h1 h2
          rw [ej, e2] at h1 h2
          refine hK _ (by omega) (Or.inl ⟨rfl, fun v hv => ?_⟩)
          rcases (i5 v).mp hv with ⟨q1, q2, _⟩ | ⟨q1, _, g', q2, q3⟩
          · have := h1 q1
            omega
          · rcases h2 with h2 | h2 | h2
            · omega
            · exact h2 q1
            · have := b3 (by omega)
              have q4 := dz_av_len q3
              omega
        · intro hk ha h16
          rw [ej] at hk h16
          rw [e2] at hk
          obtain ⟨g', rfl⟩ : ∃ g', g = g' + 1 := ⟨g - 1, by omega⟩
          have := b3 (by omega)
          refine ⟨_, ?_, rfl, Or.inr ⟨rfl, x3, x5, a0, 0, j, k, f, b, N, g', rfl, rfl, i1, ⟨⟨b1, b2, b3⟩, b4, b5⟩, hk, by omega, by omega, hN, hA, ?_, ?_, rfl⟩⟩
          · omega
          · rw [Int.sub_zero]
            exact i4
          · intro v
            rw [i5 v, Int.sub_zero]
            constructor
            · rintro (⟨q, _⟩ | ⟨_, q1, g'', q2, q3⟩)
              · omega
              · obtain rfl : g' = g'' := by omega
                exact ⟨q1, q3⟩
            · rintro ⟨q1, q3⟩
              exact Or.inr ⟨hk, q1, g', rfl, q3⟩
    · subst eg
      have i1' := i1
      obtain ⟨⟨e0, e1⟩, ⟨e2, e3⟩, e4, e5⟩ := i1'
      obtain ⟨⟨b1, b2, b3⟩, b4, b5⟩ := i2
      have ej : x3.toNat = j := by omega
      have e4' : rf_nd (u.2.1 12) (u.2.1 13) (u.2.1 14) (u.2.1 15) (u.1 11 6) f (u.2.1 14 x3.toNat) := by rw [ej]; exact e4
      have ld := dz_dr_len x6.toNat f
      by_cases hx : x6 < x4
      · obtain ⟨dj, hdj⟩ : ∃ q, (x4 - x6).toNat = q + 1 := ⟨(x4 - x6).toNat - 1, by omega⟩
        rw [hdj] at i8 i9
        cases M with
        | leaf => exact i8.elim
        | inner mj mk mv mf mx =>
          obtain ⟨⟨g0, g1⟩, ⟨g2, g3⟩, g4, g5⟩ := i6
          obtain ⟨⟨c1, c2, c3⟩, c4, c5⟩ := i7
          obtain ⟨k0, i8'⟩ := i8
          have emj : x5.toNat = mj := by omega
          generalize hr : dz_dr x6.toNat f = r at ld i9
          cases r with
          | leaf =>
            have : rf_len .leaf = 0 := rfl
            omega
          | inner rj rk rv rf_ rx =>
            have har := dz_ar_dr (n := x6.toNat) b4
            rw [hr] at har
            have hnx : dz_dr (x6 + 1).toNat f = rx := by
              rw [show (x6 + 1).toNat = x6.toNat + 1 by omega, dz_dr_s, hr]
              rfl
            refine w_av_69 (W := fun w => dz_nd u (.inner rj rk rv rf_ rx) w) (Z := fun z => (z = -1 ∧ ∀ v, ¬ (dz_av (.inner rj rk rv rf_ rx)).1 g' [] v) ∨ (0 ≤ z ∧ (dz_av (.inner rj rk rv rf_ rx)).1 g' [] z)) (c_dz_head hsL (d + 1) (by omega)) (c_dz_body hsL (d + 1) (by omega)) hI (by omega) (by omega) (by omega) (by omega) (fun _ K hK' => c_dz_arg hsL (d + 1) (by omega) x3 x6 f u K hI (by omega) (by omega) e4' (fun z z1 z2 => hK' z (by rw [hr] at z2; exact z2) (by omega))) (fun _ w hw K hK' => h_rec g' rfl _ w (a1 + 1) u K hI (by omega) hw har (fun z hz0 hz => hK' z hz hz0)) ?_ ?_ (fun h => absurd h (by omega))
            · intro _ z hz hne
              rw [emj, g3] at hne
              refine hK _ (by omega) (Or.inl ⟨rfl, fun v hv => ?_⟩)
              obtain ⟨_, u1, us', q3, q4, q5⟩ := (i9 v).mp hv
              have q6 : mk.2 :: rf_rf dj mf = u1 :: us' := q3
              injection q6 with q7 q8
              subst q7
              rcases hz with ⟨_, hz⟩ | ⟨_, hz⟩
              · exact hz _ q4
              · exact hne (dz_av_fun hz q4)
            · intro _ z hz he
              rw [emj, g3] at he
              have hz' : (dz_av (.inner rj rk rv rf_ rx)).1 g' [] mk.2 := by
                rcases hz with ⟨q, _⟩ | ⟨_, hz⟩
                · omega
                · rw [← he]
                  exact hz
              refine ⟨_, ?_, rfl, Or.inr ⟨rfl, x3, x4, _, x6 + 1, j, k, f, b, mf, g', rfl, rfl, i1, ⟨⟨b1, b2, b3⟩, b4, b5⟩, i3, i4, by omega, by rw [emj]; exact g4, c4, ?_, ?_, rfl⟩⟩
              · omega
              · rw [show (x4 - (x6 + 1)).toNat = dj by omega]
                exact i8'
              · intro v
                rw [i9 v, hnx, show (x4 - (x6 + 1)).toNat = dj by omega]
                constructor
                · rintro ⟨q0, u1, us', q3, q4, q5⟩
                  have q6 : mk.2 :: rf_rf dj mf = u1 :: us' := q3
                  injection q6 with q7 q8
                  rw [q8]
                  exact ⟨q0, q5⟩
                · rintro ⟨q0, q5⟩
                  exact ⟨q0, mk.2, _, rfl, hz', q5⟩
      · have ex : x6 = x4 := by omega
        refine w_av_69 (W := fun _ => True) (Z := fun _ => True) (c_dz_head hsL (d + 1) (by omega)) (c_dz_body hsL (d + 1) (by omega)) hI (by omega) (by omega) (by omega) (by omega) (fun h => absurd h hx) (fun h => absurd h hx) (fun h => absurd h hx) (fun h => absurd h hx) (fun _ => ?_)
        rw [ej, e3]
        refine hK _ (by have := hI.arr 13 (by decide) rfl j; rw [e3] at this; exact this) (Or.inr ⟨b2, (i9 _).mpr ⟨rfl, ?_⟩⟩)
        have hz : dz_dr x6.toNat f = .leaf := by
          generalize dz_dr x6.toNat f = r at ld
          cases r with
          | leaf => rfl
          | inner _ _ _ _ rx =>
            have : rf_len rx + 1 = rf_len f - x6.toNat := ld
            omega
        rw [hz, show (x4 - x6).toNat = 0 by omega]
        show rf_rf 0 M = []
        cases M <;> rfl

theorem c_dz_asv {sL : Nat} {sx : Nat → Int32} (hsL : sL ≤ 3072) : ∀ g : Nat, g ≤ 5 → ∀ d, 5 + g ≤ d → ∀ (N : rf_N) (a0 a1 : Int) (s : sx_S) (R : Int → sx_S → Prop), cx_I s → a1 = 5 - ((g : Nat) : Int) → dz_nd s N a0 → dz_ar (s.2.1 16) N → (∀ z : Int, (-2147483648 ≤ z ∧ z ≤ 2147483647) → (z = -1 ∧ ∀ v, ¬ (dz_av N).1 g [] v) ∨ (0 ≤ z ∧ (dz_av N).1 g [] z) → R z s) → sx_C sL sx d 98 [.inr (.inl 11), .inl a0, .inl a1] s R := by
  intro g
  induction g with
  | zero =>
    intro hg d hd
    obtain ⟨d, rfl⟩ : ∃ e, d = e + 2 := ⟨d - 2, by omega⟩
    exact st_dz_asv hsL 0 hg (by omega) (fun g' h => absurd h (by omega))
  | succ g ih =>
    intro hg d hd
    obtain ⟨d, rfl⟩ : ∃ e, d = e + 2 := ⟨d - 2, by omega⟩
    exact st_dz_asv hsL (g + 1) hg (by omega) (fun g' h => by
      obtain rfl : g = g' := by omega
      exact ih (by omega) (d + 1) (by omega))
end
section
/-! ===== patterns without the look at the binders; what is made against what is read ===== -/
def px_qv (SN : Int → Int → Prop) : px_N → (List (Int × qx_T) → List Nat → Nat → Prop) × (List (Int × qx_T) → List Nat → Prop)
  | .leaf => (fun _ _ _ => False, fun _ us => us = [])
  | .inner g q _ f x => (fun Γ us v => (g = 0 ∧ (px_qv SN f).1 (q :: Γ) (us ++ [Γ.length]) v) ∨ (g ≠ 0 ∧ (∃ y, px_vr SN Γ q.1 v y) ∧ (px_qv SN f).2 Γ us), fun Γ us => ∃ u us', us = u :: us' ∧ ((g = 0 ∧ (px_qv SN f).1 (q :: Γ) ([] ++ [Γ.length]) u) ∨ (g ≠ 0 ∧ (∃ y, px_vr SN Γ q.1 u y) ∧ (px_qv SN f).2 Γ [])) ∧ (px_qv SN x).2 Γ us')
theorem px_qv_c {SN : Int → Int → Prop} {g : Nat} {q : Int × qx_T} {u0 : Unit} {f x : px_N} {Γ : List (Int × qx_T)} {us : List Nat} : (px_qv SN (.inner g q u0 f x)).2 Γ us ↔ ∃ u us', us = u :: us' ∧ (px_qv SN (.inner g q u0 f x)).1 Γ [] u ∧ (px_qv SN x).2 Γ us' := Iff.rfl
/-- the type of what is bound under l others -/
def px_tl (Γ : List (Int × qx_T)) (l : Nat) : qx_T := ((Γ[Γ.length - 1 - l]?).map (fun q => q.2)).getD .leaf
theorem px_tl_cons {q : Int × qx_T} {Γ : List (Int × qx_T)} {l : Nat} (h : l < Γ.length) : px_tl (q :: Γ) l = px_tl Γ l := by
  unfold px_tl
  rw [List.length_cons, show Γ.length + 1 - 1 - l = (Γ.length - 1 - l) + 1 by omega, List.getElem?_cons_succ]
theorem px_tl_top {q : Int × qx_T} {Γ : List (Int × qx_T)} : px_tl (q :: Γ) Γ.length = q.2 := by
  unfold px_tl
  rw [List.length_cons, show Γ.length + 1 - 1 - Γ.length = 0 by omega]
  rfl
theorem px_vr_tl {SN : Int → Int → Prop} {a : Int} : ∀ {Γ : List (Int × qx_T)} {k : Nat} {x : qx_T}, px_vr SN Γ a k x → px_tl Γ k = x
  | [], _, _, h => h.elim
  | q :: Γ, k, x, h => by
    rcases h with ⟨_, h2, h3⟩ | ⟨_, h2⟩
    · rw [h2, px_tl_top, h3]
    · rw [px_tl_cons (px_vr_lt h2)]
      exact px_vr_tl h2
theorem px_tl_5 {Γ : List (Int × qx_T)} (h : ∀ q ∈ Γ, qx_at q.2 ≤ 5) (l : Nat) : qx_at (px_tl Γ l) ≤ 5 := by
  unfold px_tl
  cases e : Γ[Γ.length - 1 - l]? with
  | none => exact Nat.le_of_ble_eq_true rfl
  | some q => exact h q (List.mem_of_getElem? e)
theorem px_pv_qv {SN : Int → Int → Prop} : ∀ {n : px_N}, (∀ {Γ : List (Int × qx_T)} {us : List Nat} {v : Nat}, (px_pv SN n).1 Γ us v → (px_qv SN n).1 Γ us v) ∧ (∀ {Γ : List (Int × qx_T)} {us : List Nat}, (px_pv SN n).2 Γ us → (px_qv SN n).2 Γ us)
  | .leaf => ⟨fun h => h.elim, fun h => h⟩
  | .inner g q u0 f x => by
    have hf := px_pv_qv (SN := SN) (n := f)
    have hx := px_pv_qv (SN := SN) (n := x)
    have h1 : ∀ {Γ : List (Int × qx_T)} {us : List Nat} {v : Nat}, (px_pv SN (.inner g q u0 f x)).1 Γ us v → (px_qv SN (.inner g q u0 f x)).1 Γ us v := by
      intro Γ us v h
      rcases h with ⟨h1, h2⟩ | ⟨h1, h2, _, h3⟩
      · exact Or.inl ⟨h1, hf.1 h2⟩
      · exact Or.inr ⟨h1, h2, hf.2 h3⟩
    refine ⟨h1, fun h => ?_⟩
    obtain ⟨u, us', e, a, b⟩ := px_pv_c.mp h
    exact px_qv_c.mpr ⟨u, us', e, h1 a, hx.2 b⟩
theorem dz_sm_m {T : qx_T} {Ts : List qx_T} (h : T ∈ Ts) : qx_at T ≤ dz_sm Ts := by
  obtain ⟨j, hj⟩ := List.mem_iff_getElem?.mp h
  exact dz_sm_mem hj
theorem px_tl_no {Γ : List (Int × qx_T)} {us : List Nat} {l : Nat} {x : qx_T} (h : px_tl Γ l = dz_as (us.map (px_tl Γ)) x) : l ∉ us := fun hl => by
  have h1 := dz_sm_m (List.mem_map_of_mem (f := px_tl Γ) hl)
  have h2 := dz_as_at x (us.map (px_tl Γ))
  rw [← h] at h2
  have := qx_at_pos x
  omega
theorem px_tl_map {Γ : List (Int × qx_T)} {q : Int × qx_T} {us : List Nat} (hus : ∀ u ∈ us, u < Γ.length) : (us ++ [Γ.length]).map (px_tl (q :: Γ)) = us.map (px_tl Γ) ++ [q.2] := by
  rw [List.map_append]
  congr 1
  · exact List.map_congr_left (fun l hl => px_tl_cons (hus l hl))
  · rw [List.map_cons, List.map_nil, px_tl_top]
theorem px_hd_v {SN : Int → Int → Prop} {C M Γ : List (Int × qx_T)} {a s : Int} {k v : Nat} {u y : qx_T} (h : px_hd SN C M Γ a s k u) (hv : px_vr SN Γ a v y) : s = 2 ∧ k = v ∧ u = y ∧ px_vr SN Γ a k u := by
  rcases h with ⟨h1, h2⟩ | ⟨_, h2, _⟩ | ⟨_, h2, _⟩
  · obtain ⟨e1, e2⟩ := px_vr_fun h2 hv
    exact ⟨h1, e1, e2, h2⟩
  · exact (px_vr_nv hv h2).elim
  · exact (px_vr_nv hv h2).elim
theorem px_hd_2 {SN : Int → Int → Prop} {C M Γ : List (Int × qx_T)} {a s : Int} {k : Nat} {u : qx_T} (h : px_hd SN C M Γ a s k u) (h2 : s = 2) : px_vr SN Γ a k u := by
  rcases h with ⟨_, h⟩ | ⟨h1, _⟩ | ⟨h1, _⟩
  · exact h
  · omega
  · omega
theorem px_qv_ty {SN : Int → Int → Prop} {C M : List (Int × qx_T)} : ∀ {n : px_N}, (∀ {Γ : List (Int × qx_T)} {us : List Nat} {l : Nat} {x : qx_T}, (px_wt SN C M n).1 Γ x → (px_qv SN n).1 Γ us l → (∀ u ∈ us, u < Γ.length) → l < Γ.length ∧ px_tl Γ l = dz_as (us.map (px_tl Γ)) x ∧ (px_pv SN n).1 Γ us l) ∧ (∀ {Γ : List (Int × qx_T)} {us : List Nat} {u w : qx_T}, (px_wt SN C M n).2 Γ u w → (px_qv SN n).2 Γ us → (∀ v ∈ us, v < Γ.length) ∧ u = dz_as (us.map (px_tl Γ)) w ∧ (px_pv SN n).2 Γ us)
  | .leaf => ⟨fun h => h.elim, fun {Γ us u w} h g => by
    have e : us = [] := g
    subst e
    exact ⟨fun v hv => absurd hv List.not_mem_nil, h, rfl⟩⟩
  | .inner g q u0 f x => by
    have hf := px_qv_ty (SN := SN) (C := C) (M := M) (n := f)
    have hx := px_qv_ty (SN := SN) (C := C) (M := M) (n := x)
    have h1 : ∀ {Γ : List (Int × qx_T)} {us : List Nat} {l : Nat} {y : qx_T}, (px_wt SN C M (.inner g q u0 f x)).1 Γ y → (px_qv SN (.inner g q u0 f x)).1 Γ us l → (∀ u ∈ us, u < Γ.length) → l < Γ.length ∧ px_tl Γ l = dz_as (us.map (px_tl Γ)) y ∧ (px_pv SN (.inner g q u0 f x)).1 Γ us l := by
      intro Γ us l y h k hus
      rcases h with ⟨h1, h2, B, h3, h4⟩ | ⟨h1, s, j, u, h2, h3, _⟩ <;> rcases k with ⟨k1, k2⟩ | ⟨k1, ⟨y', k2⟩, k3⟩
      · obtain ⟨a1, a2, a3⟩ := hf.1 h3 k2 (fun u hu => by
          rw [List.length_cons]
          rcases List.mem_append.mp hu with z | z
          · have := hus u z
            omega
          · have : u = Γ.length := by simpa using z
            omega)
        have a4 := px_tl_no a2
        have a5 : l ≠ Γ.length := fun e => a4 (List.mem_append_right _ (by rw [e]; exact List.mem_cons_self))
        rw [List.length_cons] at a1
        have a6 : l < Γ.length := by omega
        rw [px_tl_cons a6, px_tl_map hus, ← dz_as_snoc] at a2
        exact ⟨a6, by rw [h4]; exact a2, Or.inl ⟨h1, a3⟩⟩
      · exact absurd h1 k1
      · exact absurd k1 h1
      · obtain ⟨e1, e2, e3, e4⟩ := px_hd_v h2 k2
        obtain ⟨a1, a2, a3⟩ := hf.2 h3 k3
        have a4 : px_tl Γ l = dz_as (us.map (px_tl Γ)) y := by rw [px_vr_tl k2, ← e3]; exact a2
        exact ⟨px_vr_lt k2, a4, Or.inr ⟨h1, ⟨y', k2⟩, px_tl_no a4, a3⟩⟩
    refine ⟨h1, ?_⟩
    intro Γ us u w h k
    obtain ⟨A, B, a1, a2, a3⟩ := px_wt_c.mp h
    obtain ⟨v, us', b1, b2, b3⟩ := px_qv_c.mp k
    obtain ⟨c1, c2, c3⟩ := h1 a2 b2 (fun _ q => absurd q List.not_mem_nil)
    obtain ⟨d1, d2, d3⟩ := hx.2 a3 b3
    subst b1
    refine ⟨fun z hz => ?_, ?_, px_pv_c.mpr ⟨v, us', rfl, c3, d3⟩⟩
    · rcases List.mem_cons.mp hz with rfl | hz
      · exact c1
      · exact d1 z hz
    · rw [a1, d2, List.map_cons]
      show qx_a A _ = qx_a (px_tl Γ v) _
      rw [show px_tl Γ v = A from c2]
theorem px_pv_fun {SN : Int → Int → Prop} : ∀ {n : px_N}, (∀ {Γ : List (Int × qx_T)} {us us' : List Nat} {v v' : Nat}, (px_pv SN n).1 Γ us v → (px_pv SN n).1 Γ us' v' → v = v') ∧ (∀ {Γ : List (Int × qx_T)} {us us' : List Nat}, (px_pv SN n).2 Γ us → (px_pv SN n).2 Γ us' → us = us')
  | .leaf => ⟨fun h => h.elim, fun h g => by
    rw [show _ = [] from h, show _ = [] from g]⟩
  | .inner g q u0 f x => by
    have hf := px_pv_fun (SN := SN) (n := f)
    have hx := px_pv_fun (SN := SN) (n := x)
    have h1 : ∀ {Γ : List (Int × qx_T)} {us us' : List Nat} {v v' : Nat}, (px_pv SN (.inner g q u0 f x)).1 Γ us v → (px_pv SN (.inner g q u0 f x)).1 Γ us' v' → v = v' := by
      intro Γ us us' v v' h k
      rcases h with ⟨h1, h2⟩ | ⟨h1, ⟨y, h2⟩, _, h3⟩ <;> rcases k with ⟨k1, k2⟩ | ⟨k1, ⟨y', k2⟩, _, k3⟩
      · exact hf.1 h2 k2
      · exact absurd h1 k1
      · exact absurd k1 h1
      · exact (px_vr_fun h2 k2).1
    refine ⟨h1, ?_⟩
    intro Γ us us' h k
    obtain ⟨u, r, e, a, b⟩ := px_pv_c.mp h
    obtain ⟨u', r', e', a', b'⟩ := px_pv_c.mp k
    rw [e, e', h1 a a', hx.2 b b']
theorem px_pv_snoc {SN : Int → Int → Prop} {Γ : List (Int × qx_T)} {p : px_N} : ∀ {r : px_N} {ls : List Nat}, (px_pv SN (px_snoc r p)).2 Γ ls ↔ ∃ a b, ls = a ++ b ∧ (px_pv SN r).2 Γ a ∧ (px_pv SN p).2 Γ b
  | .leaf, ls => ⟨fun h => ⟨[], ls, rfl, rfl, h⟩, fun ⟨a, b, h1, h2, h3⟩ => by
    have e : a = [] := h2
    rw [h1, e]
    exact h3⟩
  | .inner j k u f x, ls => by
    constructor
    · intro h
      obtain ⟨v, r, e, a, b⟩ := px_pv_c.mp h
      obtain ⟨a', b', e', c, d⟩ := px_pv_snoc.mp b
      exact ⟨v :: a', b', by rw [e, e']; rfl, px_pv_c.mpr ⟨v, a', rfl, a, c⟩, d⟩
    · rintro ⟨a, b, e, h, d⟩
      obtain ⟨v, r, e', a', b'⟩ := px_pv_c.mp h
      exact px_pv_c.mpr ⟨v, r ++ b, by rw [e, e']; rfl, a', px_pv_snoc.mpr ⟨r, b, rfl, b', d⟩⟩
theorem px_qv_snoc {SN : Int → Int → Prop} {Γ : List (Int × qx_T)} {p : px_N} : ∀ {r : px_N} {ls : List Nat}, (px_qv SN (px_snoc r p)).2 Γ ls ↔ ∃ a b, ls = a ++ b ∧ (px_qv SN r).2 Γ a ∧ (px_qv SN p).2 Γ b
  | .leaf, ls => ⟨fun h => ⟨[], ls, rfl, rfl, h⟩, fun ⟨a, b, h1, h2, h3⟩ => by
    have e : a = [] := h2
    rw [h1, e]
    exact h3⟩
  | .inner j k u f x, ls => by
    constructor
    · intro h
      obtain ⟨v, r, e, a, b⟩ := px_qv_c.mp h
      obtain ⟨a', b', e', c, d⟩ := px_qv_snoc.mp b
      exact ⟨v :: a', b', by rw [e, e']; rfl, px_qv_c.mpr ⟨v, a', rfl, a, c⟩, d⟩
    · rintro ⟨a, b, e, h, d⟩
      obtain ⟨v, r, e', a', b'⟩ := px_qv_c.mp h
      exact px_qv_c.mpr ⟨v, r ++ b, by rw [e, e']; rfl, a', px_qv_snoc.mpr ⟨r, b, rfl, b', d⟩⟩
/-! what is made of a TERM -/
def dz_mt (SN : Int → Int → Prop) (W : rf_N) (n : px_N) (Γ : List (Int × qx_T)) (ρ : List Int) : Prop := True → (∀ (g : Nat) (us : List Nat) (v : Int), (∀ l ∈ us, l < Γ.length) → (dz_av W).1 g (us.map (px_id ρ)) v → ∃ l, v = px_id ρ l ∧ (px_qv SN n).1 Γ us l) ∧ (∀ (g : Nat) (us : List Nat) (l : Nat), (∀ l ∈ us, l < Γ.length) → (px_qv SN n).1 Γ us l → qx_at (px_tl Γ l) ≤ g → (dz_av W).1 g (us.map (px_id ρ)) (px_id ρ l))
def dz_mr (SN : Int → Int → Prop) (F : rf_N) (f : px_N) (Γ : List (Int × qx_T)) (ρ : List Int) : Prop := True → (∀ (g : Nat) (vs : List Int), (dz_av F).2 g vs → ∃ ls, vs = ls.map (px_id ρ) ∧ (px_qv SN f).2 Γ ls) ∧ (∀ (g : Nat) (ls : List Nat), (px_qv SN f).2 Γ ls → (∀ l ∈ ls, qx_at (px_tl Γ l) ≤ g) → (dz_av F).2 g (ls.map (px_id ρ)))
theorem px_id_map {Γ : List (Int × qx_T)} {ρ : List Int} {w : Int} {us : List Nat} (hl : ρ.length = Γ.length) (hus : ∀ u ∈ us, u < Γ.length) : (us ++ [Γ.length]).map (px_id (w :: ρ)) = us.map (px_id ρ) ++ [w] := by
  rw [List.map_append]
  congr 1
  · exact List.map_congr_left (fun l h => px_id_cons (by rw [hl]; exact hus l h))
  · rw [List.map_cons, List.map_nil, ← hl, px_id_top]
theorem dz_mt_lam {SN : Int → Int → Prop} {C M : List (Int × qx_T)} {q : Int × qx_T} {Γ : List (Int × qx_T)} {ρ : List Int} {w : Int} {N : rf_N} {f : px_N} {x : qx_T} {j : Nat} (hl : ρ.length = Γ.length) (h5 : ∀ q ∈ Γ, qx_at q.2 ≤ 5) (hw : (px_wt SN C M (.inner 0 q () f .leaf)).1 Γ x) (h : dz_mt SN N f (q :: Γ) (w :: ρ)) : dz_mt SN (rf_n j 0 w N .leaf) (.inner 0 q () f .leaf) Γ ρ := fun _ => by
  obtain ⟨h1, h2⟩ := h trivial
  have hin : ∀ us : List Nat, (∀ l ∈ us, l < Γ.length) → ∀ l ∈ us ++ [Γ.length], l < (q :: Γ).length := fun us hus l hl' => by
    rw [List.length_cons]
    rcases List.mem_append.mp hl' with z | z
    · have := hus l z
      omega
    · have : l = Γ.length := by simpa using z
      omega
  refine ⟨fun g us v hus k => ?_, fun g us l hus k hg => ?_⟩
  · rcases k with ⟨_, _, k⟩ | ⟨k, _⟩
    · have k' : (dz_av N).1 g ((us ++ [Γ.length]).map (px_id (w :: ρ))) v := by rw [px_id_map hl hus]; exact k
      obtain ⟨l, l1, l2⟩ := h1 g _ v (hin us hus) k'
      have l3 : (px_qv SN (.inner 0 q () f .leaf)).1 Γ us l := Or.inl ⟨rfl, l2⟩
      obtain ⟨l4, _⟩ := px_qv_ty.1 hw l3 hus
      exact ⟨l, by rw [l1, px_id_cons (by rw [hl]; exact l4)], l3⟩
    · exact absurd (show (0 : Int) = 2 from k) (by decide)
  · obtain ⟨l4, l5, _⟩ := px_qv_ty.1 hw k hus
    rcases k with ⟨_, k⟩ | ⟨k, _⟩
    · have k' := h2 g _ l (hin us hus) k (by rw [px_tl_cons l4]; exact hg)
      rw [px_id_map hl hus, px_id_cons (by rw [hl]; exact l4)] at k'
      refine Or.inl ⟨rfl, ?_, k'⟩
      rcases hw with ⟨_, _, B, _, hx⟩ | ⟨hw, _⟩
      · have e1 := dz_as_at x (us.map (px_tl Γ))
        rw [← l5] at e1
        have e2 := px_tl_5 h5 l
        have e3 := dz_sm_len (us.map (px_tl Γ))
        have e4 : qx_at x = qx_at q.2 + qx_at B := by rw [hx]; rfl
        have e5 := qx_at_pos q.2
        have e6 := qx_at_pos B
        rw [List.length_map] at e3
        rw [List.length_map]
        omega
      · exact absurd rfl hw
    · exact absurd rfl k
theorem dz_mt_app {SN : Int → Int → Prop} {C M : List (Int × qx_T)} {Γ : List (Int × qx_T)} {ρ : List Int} {W F : rf_N} {f : px_N} {x u : qx_T} {a k h : Int} {i : Nat} (hs : px_so ρ) (hl : ρ.length = Γ.length) (h5 : ∀ q ∈ Γ, qx_at q.2 ≤ 5) (hsem : dz_sem W k h F (qx_at x)) (hw : (px_wt SN C M f).2 Γ u x) (hd : px_hd SN C M Γ a k i u) (hi : k = 2 → h = px_id ρ i) (hm : k = 2 → dz_mr SN F f Γ ρ) : dz_mt SN W (px_app a f .leaf) Γ ρ := fun _ => by
  obtain ⟨s1, s2⟩ := hsem trivial
  refine ⟨fun g us v hus q => ?_, fun g us l hus q hg => ?_⟩
  · obtain ⟨k2, vh, g', _, q2⟩ := s1 g _ v q
    obtain ⟨m1, _⟩ := hm k2 trivial
    obtain ⟨ls, e, q3⟩ := m1 g' _ q2
    obtain ⟨c1, _⟩ := px_qv_ty.2 hw q3
    have e2 : us = ls := px_map_inj hs (fun l h => by rw [hl]; exact hus l h) (fun l h => by rw [hl]; exact c1 l h) e
    subst e2
    exact ⟨i, by rw [vh, hi k2], Or.inr ⟨Nat.one_ne_zero, ⟨u, px_hd_2 hd k2⟩, q3⟩⟩
  · rcases q with ⟨q, _⟩ | ⟨_, ⟨y, q1⟩, q2⟩
    · exact absurd q Nat.one_ne_zero
    · obtain ⟨k2, e1, e2, e3⟩ := px_hd_v hd q1
      subst e1
      obtain ⟨_, m2⟩ := hm k2 trivial
      obtain ⟨c1, c2, _⟩ := px_qv_ty.2 hw q2
      have t1 := px_vr_tl e3
      have a1 := dz_as_at x (us.map (px_tl Γ))
      rw [← c2, ← t1] at a1
      have a2 := px_tl_5 h5 i
      have a3 := dz_sm_len (us.map (px_tl Γ))
      rw [List.length_map] at a3
      have a4 := qx_at_pos x
      obtain ⟨g', rfl⟩ : ∃ g', g = g' + 1 := ⟨g - 1, by omega⟩
      rw [← hi k2]
      refine s2 g' _ k2 (by omega) (by rw [List.length_map]; omega) (m2 g' us q2 (fun l hl' => ?_))
      have := dz_sm_m (List.mem_map_of_mem (f := px_tl Γ) hl')
      omega
theorem dz_mr_nil {SN : Int → Int → Prop} {Γ : List (Int × qx_T)} {ρ : List Int} : dz_mr SN .leaf .leaf Γ ρ := fun _ => ⟨fun _ vs h => ⟨[], h, rfl⟩, fun _ ls h _ => by
  have e : ls = [] := h
  rw [e]
  rfl⟩
theorem dz_mr_snoc {SN : Int → Int → Prop} {Γ : List (Int × qx_T)} {ρ : List Int} {F W : rf_N} {f f' : px_N} {g0 : Nat} {q : Int × qx_T} (hn : rf_nx W) (hW : W ≠ .leaf) (h : dz_mr SN F f Γ ρ) (hp : dz_mt SN W (.inner g0 q () f' .leaf) Γ ρ) : dz_mr SN (rf_snoc F W) (px_snoc f (.inner g0 q () f' .leaf)) Γ ρ := fun _ => by
  obtain ⟨h1, h2⟩ := h trivial
  obtain ⟨p1, p2⟩ := hp trivial
  refine ⟨fun g vs k => ?_, fun g ls k hg => ?_⟩
  · obtain ⟨us, ws, e, k1, k2⟩ := dz_av_app.mp k
    obtain ⟨ls, l1, l2⟩ := h1 g us k1
    cases W with
    | leaf => exact absurd rfl hW
    | inner wj wk wu wf wx =>
      obtain ⟨v, vs', e2, k3, k4⟩ := dz_av_c.mp k2
      have e3 : wx = .leaf := hn
      subst e3
      have e4 : vs' = [] := k4
      subst e4
      obtain ⟨l, l3, l4⟩ := p1 g [] v (fun _ z => absurd z List.not_mem_nil) k3
      exact ⟨ls ++ [l], by rw [e, e2, l1, l3, List.map_append]; rfl, px_qv_snoc.mpr ⟨ls, [l], rfl, l2, px_qv_c.mpr ⟨l, [], rfl, l4, rfl⟩⟩⟩
  · obtain ⟨a, b, e, k1, k2⟩ := px_qv_snoc.mp k
    obtain ⟨v, r, e2, k3, k4⟩ := px_qv_c.mp k2
    have e3 : r = [] := k4
    subst e3
    subst e2
    subst e
    rw [List.map_append]
    refine dz_av_app.mpr ⟨_, _, rfl, h2 g a k1 (fun l hl => hg l (List.mem_append_left _ hl)), dz_av_one hn (p2 g [] v (fun _ z => absurd z List.not_mem_nil) k3 (hg v (List.mem_append_right _ List.mem_cons_self)))⟩
/-- asVariable's answer for an ARG -/
theorem dz_mt_pv {SN : Int → Int → Prop} {C M : List (Int × qx_T)} {Γ : List (Int × qx_T)} {ρ : List Int} {W : rf_N} {p : px_N} {A : qx_T} {z : Int} (h5 : ∀ q ∈ Γ, qx_at q.2 ≤ 5) (hw : (px_wt SN C M p).1 Γ A) (hm : dz_mt SN W p Γ ρ) (hz : (z = -1 ∧ ∀ v, ¬ (dz_av W).1 5 [] v) ∨ (0 ≤ z ∧ (dz_av W).1 5 [] z)) : (z = -1 ∧ ∀ l, ¬ (px_pv SN p).1 Γ [] l) ∨ (0 ≤ z ∧ ∃ l, z = px_id ρ l ∧ l < Γ.length ∧ (px_pv SN p).1 Γ [] l) := by
  obtain ⟨m1, m2⟩ := hm trivial
  rcases hz with ⟨z1, z2⟩ | ⟨z1, z2⟩
  · exact Or.inl ⟨z1, fun l hl => z2 _ (m2 5 [] l (fun _ z => absurd z List.not_mem_nil) (px_pv_qv.1 hl) (px_tl_5 h5 l))⟩
  · obtain ⟨l, l1, l2⟩ := m1 5 [] z (fun _ z => absurd z List.not_mem_nil) z2
    obtain ⟨l3, _, l4⟩ := px_qv_ty.1 hw l2 (fun _ z => absurd z List.not_mem_nil)
    exact Or.inr ⟨z1, l, l1, l3, l4⟩
/-- an unknown's ARGs thus far -/
def dz_pt (SN : Int → Int → Prop) (F : rf_N) (r : px_N) (Γ : List (Int × qx_T)) (ρ : List Int) : Prop := True → ∃ ls, dz_hs F = ls.map (px_id ρ) ∧ (px_pv SN r).2 Γ ls ∧ ls.Nodup ∧ ∀ l ∈ ls, l < Γ.length
theorem dz_pt_nil {SN : Int → Int → Prop} {Γ : List (Int × qx_T)} {ρ : List Int} : dz_pt SN .leaf .leaf Γ ρ := fun _ => ⟨[], rfl, rfl, List.nodup_nil, fun _ z => absurd z List.not_mem_nil⟩
theorem dz_pt_ok {SN : Int → Int → Prop} {F : rf_N} {r : px_N} {Γ : List (Int × qx_T)} {ρ : List Int} (h : dz_pt SN F r Γ ρ) : px_pt' SN Γ r := by
  obtain ⟨ls, _, h2, h3, _⟩ := h trivial
  exact ⟨ls, h2, h3⟩
theorem dz_pt_snoc {SN : Int → Int → Prop} {F : rf_N} {r f' : px_N} {Γ : List (Int × qx_T)} {ρ : List Int} {g0 : Nat} {q : Int × qx_T} {z : Int} {l j : Nat} (hs : px_so ρ) (hl : ρ.length = Γ.length) (h : dz_pt SN F r Γ ρ) (hz : z = px_id ρ l) (hll : l < Γ.length) (hp : (px_pv SN (.inner g0 q () f' .leaf)).1 Γ [] l) : (z ∈ dz_hs F → ¬ px_pt' SN Γ (px_snoc r (.inner g0 q () f' .leaf))) ∧ (z ∉ dz_hs F → dz_pt SN (rf_snoc F (rf_n j 2 z .leaf .leaf)) (px_snoc r (.inner g0 q () f' .leaf)) Γ ρ) := by
  obtain ⟨ls, h1, h2, h3, h4⟩ := h trivial
  have hmem : z ∈ dz_hs F ↔ l ∈ ls := by
    rw [h1, hz]
    exact px_map_mem hs (fun l h => by rw [hl]; exact h4 l h) (by rw [hl]; exact hll)
  refine ⟨fun hin => ?_, fun hni => fun _ => ⟨ls ++ [l], ?_, px_pv_snoc.mpr ⟨ls, [l], rfl, h2, px_pv_c.mpr ⟨l, [], rfl, hp, rfl⟩⟩, ?_, fun x hx => ?_⟩⟩
  · rintro ⟨vs, v1, v2⟩
    obtain ⟨a, b, e, k1, k2⟩ := px_pv_snoc.mp v1
    obtain ⟨v, r', e2, k3, k4⟩ := px_pv_c.mp k2
    have e3 := px_pv_fun.2 h2 k1
    have e4 := px_pv_fun.1 hp k3
    rw [e, e2, ← e3, ← e4] at v2
    have v3 := List.nodup_append.mp v2
    exact v3.2.2 l (hmem.mp hin) l List.mem_cons_self rfl
  · rw [dz_hs_snoc, h1, List.map_append, hz]
    rfl
  · refine List.nodup_append.mpr ⟨h3, List.nodup_cons.mpr ⟨List.not_mem_nil, List.nodup_nil⟩, fun x hx y hy e => ?_⟩
    have : y = l := by simpa using hy
    rw [e, this] at hx
    exact hni (hmem.mpr hx)
  · rcases List.mem_append.mp hx with q | q
    · exact h4 x q
    · have : x = l := by simpa using q
      rw [this]
      exact hll
theorem px_pt_no {SN : Int → Int → Prop} {r f' : px_N} {Γ : List (Int × qx_T)} {g0 : Nat} {q : Int × qx_T} (hp : ∀ l, ¬ (px_pv SN (.inner g0 q () f' .leaf)).1 Γ [] l) : ¬ px_pt' SN Γ (px_snoc r (.inner g0 q () f' .leaf)) := by
  rintro ⟨vs, v1, v2⟩
  obtain ⟨a, b, e, k1, k2⟩ := px_pv_snoc.mp v1
  obtain ⟨v, r', e2, k3, k4⟩ := px_pv_c.mp k2
  exact hp v k3
theorem px_pt_up {SN : Int → Int → Prop} {r p : px_N} {Γ : List (Int × qx_T)} (h : ¬ px_pt' SN Γ r) : ¬ px_pt' SN Γ (px_snoc r p) := by
  rintro ⟨vs, v1, v2⟩
  obtain ⟨a, b, e, k1, k2⟩ := px_pv_snoc.mp v1
  rw [e] at v2
  exact h ⟨a, k1, (List.nodup_append.mp v2).1⟩
theorem px_AR_sn {K : Nat → Int} {T : Int → px_N → Int → Prop} {a : Int} {r r' : px_N} {c : Int} (h : px_AR K T a r r' c) : ∃ q, r' = px_snoc r q := by
  obtain ⟨g, h⟩ := h
  induction g generalizing a r with
  | zero => exact h.elim
  | succ g ih =>
    rcases h with ⟨_, t, e, _, _, h⟩ | ⟨_, h⟩ | ⟨_, _, h, _⟩
    · obtain ⟨q, hq⟩ := ih h
      exact ⟨_, by rw [hq, px_snoc_assoc]⟩
    · obtain ⟨q, hq⟩ := ih h
      exact ⟨_, by rw [hq, px_snoc_assoc]⟩
    · exact ⟨.leaf, by rw [h, px_snoc_leaf]⟩
end
