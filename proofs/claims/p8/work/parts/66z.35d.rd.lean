/-! ===== the reference reads terms, exactly: what holds on the way ===== -/
def px_tm (b : Nat → Int) (n a0 a : Int) (N : px_N) (c : Int) : Prop := px_TM (px_K b n) (21 - a0).toNat a N c
theorem px_tm_it {b : Nat → Int} {n a0 a c : Int} {N : px_N} (h : a0 ≤ 20) : px_tm b n a0 a N c ↔ (px_K b n (a).toNat = 11 ∧ px_K b n (a + 1).toNat = 2 ∧ px_K b n (a + 1 + 1).toNat = 12 ∧ ∃ x e, px_R0 b n (a0 + 1) (a + 1 + 1 + 1) x e ∧ px_K b n (e).toNat = 13 ∧ ∃ u, px_tm b n (a0 + 1) (e + 1) u c ∧ N = px_lam (a + 1) x u .leaf) ∨ (px_K b n (a).toNat = 2 ∧ ∃ r, px_AR (px_K b n) (px_tm b n (a0 + 1)) (a + 1) .leaf r c ∧ N = px_app a r .leaf) := by
  unfold px_tm px_R0
  rw [show (21 - a0).toNat = (20 - a0).toNat + 1 by omega, show (21 - (a0 + 1)).toNat = (20 - a0).toNat by omega]
  exact px_TM_it
theorem px_tm_fun {b : Nat → Int} {n a0 : Int} : ∀ a t e t' e', px_tm b n a0 a t e → px_tm b n a0 a t' e' → t = t' ∧ e = e' := fun _ _ _ _ _ h1 h2 => px_TM_fun h1 h2
/-- bad: nothing can be read -/
def px_nb (b : Nat → Int) (n a0 : Int) (s t : sx_S) : Prop := s.1 66 8 = 0 → t.1 66 8 ≠ 0 → ∀ N c, ¬ px_tm b n a0 (s.1 66 7) N c
def px_pT (b : Nat → Int) (n a0 q : Int) (s t : sx_S) (z : Int) : Prop := True → (∃ N, px_tr q (t.1 66 12) t z N ∧ (t.1 66 8 = 0 → px_tm b n a0 (s.1 66 7) N (t.1 66 7))) ∧ px_nb b n a0 s t
def px_l1 (b : Nat → Int) (n a0 : Int) (s t : sx_S) (x2 : Int) : Prop := True → (t.1 66 8 = 0 → (px_K b n (s.1 66 7).toNat = 11 ∧ px_K b n (s.1 66 7 + 1).toNat = 2 ∧ px_K b n (s.1 66 7 + 1 + 1).toNat = 12) ∧ t.1 66 7 = s.1 66 7 + 1 + 1 + 1) ∧ px_nb b n a0 s t ∧ t.2.1 75 x2.toNat = s.1 66 7 + 1
def px_l2 (b : Nat → Int) (n a0 : Int) (s t : sx_S) (x2 : Int) : Prop := True → (t.1 66 8 = 0 → (px_K b n (s.1 66 7).toNat = 11 ∧ px_K b n (s.1 66 7 + 1).toNat = 2 ∧ px_K b n (s.1 66 7 + 1 + 1).toNat = 12) ∧ ∃ x, px_R0 b n (a0 + 1) (s.1 66 7 + 1 + 1 + 1) x (t.1 66 7) ∧ qx_is t x (t.2.1 76 x2.toNat) ∧ t.1 66 33 = (qx_at x : Int)) ∧ px_nb b n a0 s t ∧ t.2.1 75 x2.toNat = s.1 66 7 + 1
def px_l3 (b : Nat → Int) (n a0 : Int) (s t : sx_S) (x2 : Int) : Prop := True → (t.1 66 8 = 0 → (px_K b n (s.1 66 7).toNat = 11 ∧ px_K b n (s.1 66 7 + 1).toNat = 2 ∧ px_K b n (s.1 66 7 + 1 + 1).toNat = 12) ∧ ∃ x, px_R0 b n (a0 + 1) (s.1 66 7 + 1 + 1 + 1) x (t.1 66 7) ∧ qx_is t x (t.2.1 76 x2.toNat) ∧ t.2.1 78 x2.toNat = (qx_at x : Int)) ∧ px_nb b n a0 s t ∧ t.2.1 75 x2.toNat = s.1 66 7 + 1
def px_l4 (b : Nat → Int) (n a0 : Int) (s t : sx_S) (x2 : Int) : Prop := True → (t.1 66 8 = 0 → (px_K b n (s.1 66 7).toNat = 11 ∧ px_K b n (s.1 66 7 + 1).toNat = 2 ∧ px_K b n (s.1 66 7 + 1 + 1).toNat = 12) ∧ ∃ x e, px_R0 b n (a0 + 1) (s.1 66 7 + 1 + 1 + 1) x e ∧ px_K b n (e).toNat = 13 ∧ t.1 66 7 = e + 1 ∧ qx_is t x (t.2.1 76 x2.toNat) ∧ t.2.1 78 x2.toNat = (qx_at x : Int)) ∧ px_nb b n a0 s t ∧ t.2.1 75 x2.toNat = s.1 66 7 + 1
def px_va (b : Nat → Int) (n a0 q : Int) (s t : sx_S) (x2 : Int) : Prop := True → (∃ r, px_tr q (t.1 66 12) t x2 (px_app (s.1 66 7) r .leaf) ∧ (t.1 66 8 = 0 → px_K b n (s.1 66 7).toNat = 2 ∧ ∀ r' c', px_AR (px_K b n) (px_tm b n (a0 + 1)) (s.1 66 7 + 1) .leaf r' c' ↔ px_AR (px_K b n) (px_tm b n (a0 + 1)) (t.1 66 7) r r' c')) ∧ px_nb b n a0 s t
def px_vb (b : Nat → Int) (n a0 q : Int) (s t : sx_S) (x2 x4 : Int) : Prop := True → (∃ r p mid, px_tr q mid t x2 (px_app (s.1 66 7) r .leaf) ∧ px_tr mid (t.1 66 12) t x4 p ∧ mid ≤ t.1 66 12 ∧ (t.1 66 8 = 0 → px_K b n (s.1 66 7).toNat = 2 ∧ ∃ a', px_K b n (a').toNat = 9 ∧ px_tm b n (a0 + 1) (a' + 1) p (t.1 66 7) ∧ ∀ r' c', px_AR (px_K b n) (px_tm b n (a0 + 1)) (s.1 66 7 + 1) .leaf r' c' ↔ px_AR (px_K b n) (px_tm b n (a0 + 1)) a' r r' c')) ∧ px_nb b n a0 s t
def px_tk (b : Nat → Int) (n k : Int) (t u : sx_S) : Prop := True → ((u.1 66 8 = 0 ∧ t.1 66 8 = 0 ∧ u.1 66 7 = t.1 66 7 + 1) ∨ (u.1 66 8 = 1 ∧ u.1 66 7 = t.1 66 7)) ∧ (u.1 66 8 = 0 → px_rc (px_K b n (t.1 66 7).toNat) = k) ∧ (t.1 66 8 = 0 → u.1 66 8 ≠ 0 → px_rc (px_K b n (t.1 66 7).toNat) ≠ k)
theorem px_tk_mk {b : Nat → Int} {n k : Int} {t u : sx_S} (h1 : (u.1 66 8 = 0 ∧ t.1 66 8 = 0 ∧ u.1 66 7 = t.1 66 7 + 1) ∨ (u.1 66 8 = 1 ∧ u.1 66 7 = t.1 66 7)) (h2 : u.1 66 8 = 0 → px_rc (px_K b n (t.1 66 7).toNat) = k) (h3 : t.1 66 8 = 0 → u.1 66 8 ≠ 0 → px_rc (px_K b n (t.1 66 7).toNat) ≠ k) : px_tk b n k t u := fun _ => ⟨h1, h2, h3⟩
section PXT
variable {b : Nat → Int} {n a0 q : Int} {s t u v w r : sx_S} {x2 x4 z a1 : Int}
theorem px_pT_nil (h8 : t.1 66 8 ≠ 0) (ha : s.1 66 8 = 0 → 20 < a0) : px_pT b n a0 q s t (-1) := fun _ => ⟨⟨.leaf, px_tr_nil h8, fun e => absurd e h8⟩, fun e _ N c h => by
  have := ha e
  unfold px_tm at h
  rw [show (21 - a0).toNat = 0 by omega] at h
  exact h⟩
/-- two signs behind the backslash -/
theorem px_l1_mk (ha : a0 ≤ 20) (h11 : px_rc (px_K b n (s.1 66 7).toNat) = 92) (t7 : t.1 66 7 = s.1 66 7 + 1) (t8 : t.1 66 8 = 0) (tok : t.2.1 75 x2.toNat = s.1 66 7 + 1) (d1 : px_tk b n 1 t u) (d2 : px_tk b n 58 u v) (F1 : cx_F [(66, 66)] t u) (F2 : cx_F [(66, 66)] u v) : px_l1 b n a0 s v x2 := fun _ => by
  obtain ⟨a1, a2, a3⟩ := d1 trivial
  obtain ⟨b1, b2, b3⟩ := d2 trivial
  rw [t7] at a1 a2 a3
  refine ⟨fun q => ?_, fun q0 q N c h => ?_, ?_⟩
  · have u8 : u.1 66 8 = 0 := by omega
    have u7 : u.1 66 7 = s.1 66 7 + 1 + 1 := by omega
    rw [u7] at b2
    exact ⟨⟨(px_rcK b n (s.1 66 7).toNat).2.2.2.2.2.2.2.2.2.1.mp h11, (px_rcK b n (s.1 66 7 + 1).toNat).1.mp (a2 u8), (px_rcK b n (s.1 66 7 + 1 + 1).toNat).2.2.2.2.2.2.2.2.2.2.1.mp (b2 q)⟩, by omega⟩
  · rcases (px_tm_it ha).mp h with ⟨e1, e2, e3, _⟩ | ⟨e1, _⟩
    · by_cases u8 : u.1 66 8 = 0
      · have u7 : u.1 66 7 = s.1 66 7 + 1 + 1 := by omega
        rw [u7] at b3
        exact b3 u8 q ((px_rcK b n (s.1 66 7 + 1 + 1).toNat).2.2.2.2.2.2.2.2.2.2.1.mpr e3)
      · exact a3 t8 u8 ((px_rcK b n (s.1 66 7 + 1).toNat).1.mpr e2)
    · have := (px_rcK b n (s.1 66 7).toNat).2.2.2.2.2.2.2.2.2.1.mp h11
      omega
  · rw [(F2.same 75 rfl).2, (F1.same 75 rfl).2]
    exact tok
theorem px_l2_t (h : px_l1 b n a0 s t x2) (ha : a0 ≤ 20) (h2 : px_pm (px_R0 b n a1 (r.1 66 7)) r w z) (e1 : a1 = a0 + 1) (t8 : t.1 66 8 = 0) (r8 : r.1 66 8 = 0) (r7 : r.1 66 7 = t.1 66 7) (r3 : r.1 66 33 = 0) (tok : w.2.1 75 x2.toNat = t.2.1 75 x2.toNat) : px_l2 b n a0 s (w.1, sx_ua w.2.1 76 x2.toNat z, w.2.2) x2 := fun _ => by
  subst e1
  obtain ⟨c1, c2, c3⟩ := h trivial
  obtain ⟨d1, d2⟩ := h2 trivial
  obtain ⟨f1, f2⟩ := c1 t8
  rw [r7, f2] at d1 d2
  refine ⟨fun q => ⟨f1, ?_⟩, fun q0 q N c g => ?_, ?_⟩
  · obtain ⟨x, g1, g2, g3⟩ := d1 q
    refine ⟨x, g1, ?_, by dsimp only; rw [g3, r3, Int.zero_add]⟩
    unfold qx_is at g2 ⊢
    dsimp only
    rw [sx_ua_ne (by decide), sx_ua_ne (by decide), sx_ua_same]
    dsimp only
    rw [if_pos rfl]
    exact g2
  · rcases (px_tm_it ha).mp g with ⟨e1, e2, e3, x, e, e4, _⟩ | ⟨e1, _⟩
    · exact d2 r8 q x e e4
    · omega
  · dsimp only
    rw [sx_ua_ne (by decide), tok]
    exact c3
theorem px_l2_b (h : px_l1 b n a0 s t x2) (t8 : t.1 66 8 ≠ 0) (u8 : u.1 66 8 = t.1 66 8) (tok : u.2.1 75 x2.toNat = t.2.1 75 x2.toNat) : px_l2 b n a0 s u x2 := fun _ => by
  obtain ⟨c1, c2, c3⟩ := h trivial
  exact ⟨fun q => absurd (u8.symm.trans q) t8, fun q0 q => c2 q0 t8, tok.trans c3⟩
theorem px_l3_mk (h : px_l2 b n a0 s t x2) {v : Int} (hw : v = t.1 66 33) : px_l3 b n a0 s (t.1, sx_ua t.2.1 78 x2.toNat v, t.2.2) x2 := fun _ => by
  subst hw
  obtain ⟨c1, c2, c3⟩ := h trivial
  refine ⟨fun q => ⟨(c1 q).1, ?_⟩, c2, ?_⟩
  · obtain ⟨_, x, g1, g2, g3⟩ := c1 q
    refine ⟨x, g1, ?_, ?_⟩
    · unfold qx_is at g2 ⊢
      dsimp only
      rw [sx_ua_ne (by decide), sx_ua_ne (by decide), sx_ua_ne (by decide)]
      exact g2
    · dsimp only
      rw [sx_ua_same]
      dsimp only
      rw [if_pos rfl]
      exact g3
  · dsimp only
    rw [sx_ua_ne (by decide)]
    exact c3
theorem px_l4_mk (h : px_l3 b n a0 s t x2) (ha : a0 ≤ 20) (d1 : px_tk b n 46 t u) (F1 : cx_F [(66, 66)] t u) (f1 : rf_f [7, 8] t u) : px_l4 b n a0 s u x2 := fun _ => by
  obtain ⟨c1, c2, c3⟩ := h trivial
  obtain ⟨a1, a2, a3⟩ := d1 trivial
  have t8' : u.1 66 8 = 0 → t.1 66 8 = 0 ∧ u.1 66 7 = t.1 66 7 + 1 := fun q => by
    rcases a1 with z | z
    · exact z.2
    · exact absurd (z.1.symm.trans q) (by decide)
  refine ⟨fun q => ⟨(c1 (t8' q).1).1, ?_⟩, fun q0 q N c g => ?_, by rw [(F1.same 75 rfl).2]; exact c3⟩
  · obtain ⟨_, x, g1, g2, g3⟩ := c1 (t8' q).1
    refine ⟨x, _, g1, (px_rcK b n (t.1 66 7).toNat).2.2.2.2.2.2.2.2.2.2.2.1.mp (a2 q), (t8' q).2, ?_, ?_⟩
    · unfold qx_is at g2 ⊢
      rw [(F1.same 72 rfl).2, (F1.same 73 rfl).2, (F1.same 76 rfl).2, f1 9 rfl]
      exact g2
    · rw [(F1.same 78 rfl).2]
      exact g3
  · by_cases t8 : t.1 66 8 = 0
    · obtain ⟨f1, x, g1, g2, g3⟩ := c1 t8
      rcases (px_tm_it ha).mp g with ⟨e1, e2, e3, x', e, e4, e5, _⟩ | ⟨e1, _⟩
      · obtain ⟨rfl, rfl⟩ := px_TY_fun g1 e4
        exact a3 t8 q ((px_rcK b n (t.1 66 7).toNat).2.2.2.2.2.2.2.2.2.2.2.1.mpr e5)
      · omega
    · exact c2 q0 t8 N c g
theorem px_pT_l (h : px_l4 b n a0 s t x2) (ha : a0 ≤ 20) (h2 : px_pT b n a1 (t.1 66 12) t u z) (h3 : px_AL q u v x2 z) (e1 : a1 = a0 + 1) (h12 : t.1 66 12 = x2 + 1) (h0 : 0 ≤ x2) (hn : rf_nt (t.1 66 12) t u) (hu : rf_tu t u) (v7 : v.1 66 7 = u.1 66 7) (v8 : v.1 66 8 = u.1 66 8) (u8 : u.1 66 8 = 0 → t.1 66 8 = 0) : px_pT b n a0 q s v x2 := fun _ => by
  subst e1
  obtain ⟨c1, c2, c3⟩ := h trivial
  obtain ⟨⟨N, d1, d2⟩, d3⟩ := h2 trivial
  rw [h12] at d1
  have e75 : u.2.1 75 x2.toNat = s.1 66 7 + 1 := by
    rw [hn 75 x2.toNat (by omega) (by omega) (by omega)]
    exact c3
  have e76 := hn 76 x2.toNat (by omega) (by omega) (by omega)
  have e78 := hn 78 x2.toNat (by omega) (by omega) (by omega)
  refine ⟨?_, fun q0 q M c g => ?_⟩
  · by_cases t8 : t.1 66 8 = 0
    · obtain ⟨f1, x, e, g1, g2, g3, g4, g5⟩ := c1 t8
      have h4 := h3 N x (fun _ => ⟨by rw [e76]; exact qx_is_up g4 hu, by rw [e78]; exact g5⟩) d1
      rw [e75] at h4
      refine ⟨_, h4, fun q => ?_⟩
      refine (px_tm_it ha).mpr (Or.inl ⟨f1.1, f1.2.1, f1.2.2, x, e, g1, g2, N, ?_, rfl⟩)
      rw [v7, ← g3]
      exact d2 (v8.symm.trans q)
    · have u8' : u.1 66 8 ≠ 0 := fun q => t8 (u8 q)
      exact ⟨_, h3 N .leaf (fun q => absurd q u8') d1, fun q => absurd (v8.symm.trans q) u8'⟩
  · by_cases t8 : t.1 66 8 = 0
    · obtain ⟨f1, x, e, g1, g2, g3, g4, g5⟩ := c1 t8
      rcases (px_tm_it ha).mp g with ⟨e1, e2, e3, x', e', e4, e5, u', e6, _⟩ | ⟨e1, _⟩
      · obtain ⟨rfl, rfl⟩ := px_TY_fun g1 e4
        rw [← g3] at e6
        exact d3 t8 (fun z => q (v8.trans z)) _ _ e6
      · omega
    · exact c2 q0 t8 M c g
/-- a NAME: nothing read behind it -/
theorem px_va_0 (ha : a0 ≤ 20) (hn11 : px_rc (px_K b n (s.1 66 7).toNat) ≠ 92) (h1 : px_tr q (v.1 66 12) v x2 (px_app (s.1 66 7) .leaf .leaf)) (d1 : px_tk b n 1 u v) (u7 : u.1 66 7 = s.1 66 7) (u8 : u.1 66 8 = 0) : px_va b n a0 q s v x2 := fun _ => by
  obtain ⟨a1, a2, a3⟩ := d1 trivial
  rw [u7] at a1 a2 a3
  refine ⟨⟨.leaf, h1, fun q => ⟨(px_rcK b n (s.1 66 7).toNat).1.mp (a2 q), fun r' c' => ?_⟩⟩, fun q0 q N c g => ?_⟩
  · rw [show v.1 66 7 = s.1 66 7 + 1 by omega]
  · rcases (px_tm_it ha).mp g with ⟨e1, _⟩ | ⟨e1, _⟩
    · exact hn11 ((px_rcK b n (s.1 66 7).toNat).2.2.2.2.2.2.2.2.2.1.mpr e1)
    · exact a3 u8 q ((px_rcK b n (s.1 66 7).toNat).1.mpr e1)
theorem px_pT_v (h : px_va b n a0 q s t x2) (ha : a0 ≤ 20) (hk : t.1 66 8 = 0 → px_rc (px_K b n (t.1 66 7).toNat) ≠ 1 ∧ px_rc (px_K b n (t.1 66 7).toNat) ≠ 40) : px_pT b n a0 q s t x2 := fun _ => by
  obtain ⟨⟨r, c1, c2⟩, c3⟩ := h trivial
  refine ⟨⟨_, c1, fun q => ?_⟩, c3⟩
  obtain ⟨d1, d2⟩ := c2 q
  obtain ⟨k1, k2⟩ := hk q
  exact (px_tm_it ha).mpr (Or.inr ⟨d1, r, (d2 _ _).mpr (px_AR_it.mpr (Or.inr (Or.inr ⟨fun e => k2 ((px_rcK b n (t.1 66 7).toNat).2.2.2.2.2.2.2.1.mpr e), fun e => k1 ((px_rcK b n (t.1 66 7).toNat).1.mpr e), rfl, rfl⟩))), rfl⟩)
theorem px_AR_2 {K : Nat → Int} {T : Int → px_N → Int → Prop} {a c : Int} {r r' : px_N} (h2 : K a.toNat = 2) : px_AR K T a r r' c ↔ px_AR K T (a + 1) (px_snoc r (px_app a .leaf .leaf)) r' c := by
  rw [px_AR_it]
  constructor
  · rintro (⟨q, _⟩ | ⟨_, q⟩ | ⟨_, q, _⟩)
    · omega
    · exact q
    · exact absurd h2 q
  · exact fun q => Or.inr (Or.inl ⟨h2, q⟩)
theorem px_AR_9 {K : Nat → Int} {T : Int → px_N → Int → Prop} (hT : ∀ a t e t' e', T a t e → T a t' e' → t = t' ∧ e = e') {a c e : Int} {r r' t : px_N} (h9 : K a.toNat = 9) (ht : T (a + 1) t e) (h10 : K e.toNat = 10) : px_AR K T a r r' c ↔ px_AR K T (e + 1) (px_snoc r t) r' c := by
  rw [px_AR_it]
  constructor
  · rintro (⟨_, t', e', q1, q2, q3⟩ | ⟨q, _⟩ | ⟨q, _⟩)
    · obtain ⟨rfl, rfl⟩ := hT _ _ _ _ _ ht q1
      exact q3
    · omega
    · exact absurd h9 q
  · exact fun q => Or.inl ⟨h9, t, e, ht, h10, q⟩
/-- one NAME more -/
theorem px_va_n (h : px_va b n a0 q s t x2) (t8 : t.1 66 8 = 0) (hk : px_rc (px_K b n (t.1 66 7).toNat) = 1) (h2 : px_tr (t.1 66 12) (u.1 66 12) u z (px_app (t.1 66 7) .leaf .leaf)) (h3 : px_AD q u v x2 z) (hn : rf_nt (t.1 66 12) t u) (hu : rf_tu t u) (h12 : t.1 66 12 ≤ u.1 66 12) (w7 : w.1 66 7 = t.1 66 7 + 1) (w8 : w.1 66 8 = 0) (hw : ∀ m, px_tr q (v.1 66 12) v x2 m → px_tr q (w.1 66 12) w x2 m) : px_va b n a0 q s w x2 := fun _ => by
  obtain ⟨⟨r, c1, c2⟩, c3⟩ := h trivial
  obtain ⟨d1, d2⟩ := c2 t8
  have h4 := h3 (t.1 66 12) (s.1 66 7) r (px_app (t.1 66 7) .leaf .leaf) (px_tr_nt c1 hn hu (Int.le_refl _) h12 (fun _ => t8)) h2 h12
  refine ⟨⟨_, hw _ h4, fun q => ⟨d1, fun r' c' => (d2 r' c').trans ?_⟩⟩, fun _ q => absurd w8 q⟩
  rw [w7]
  exact px_AR_2 ((px_rcK b n _).1.mp hk)
/-- a bracket: what is in it -/
theorem px_vb_mk (h : px_va b n a0 q s t x2) (ha : a0 ≤ 20) (t8 : t.1 66 8 = 0) (hk : px_rc (px_K b n (t.1 66 7).toNat) = 40) (h2 : px_pT b n a1 (r.1 66 12) r u z) (e1 : a1 = a0 + 1) (r7 : r.1 66 7 = t.1 66 7 + 1) (r8 : r.1 66 8 = 0) (r12 : r.1 66 12 = t.1 66 12) (hn : rf_nt (t.1 66 12) t u) (hu : rf_tu t u) (h12 : t.1 66 12 ≤ u.1 66 12) : px_vb b n a0 q s u x2 z := fun _ => by
  subst e1
  obtain ⟨⟨r1, c1, c2⟩, c3⟩ := h trivial
  obtain ⟨d1, d2⟩ := c2 t8
  obtain ⟨⟨N, f1, f2⟩, f3⟩ := h2 trivial
  have h9 := (px_rcK b n _).2.2.2.2.2.2.2.1.mp hk
  rw [r7] at f2
  rw [r12] at f1
  refine ⟨⟨r1, N, t.1 66 12, px_tr_nt c1 hn hu (Int.le_refl _) h12 (fun _ => t8), f1, h12, fun q => ⟨d1, _, h9, f2 q, d2⟩⟩, fun q0 q M c g => ?_⟩
  rcases (px_tm_it ha).mp g with ⟨g1, _⟩ | ⟨g1, r', g2, _⟩
  · omega
  · rcases px_AR_it.mp ((d2 _ _).mp g2) with ⟨_, t', e', q1, _⟩ | ⟨k, _⟩ | ⟨k, _⟩
    · rw [← r7] at q1
      exact f3 r8 q _ _ q1
    · omega
    · exact k h9
theorem px_vb_no (h : px_vb b n a0 q s t x2 x4) (ha : a0 ≤ 20) (d1 : px_tk b n 41 t u) (u8 : u.1 66 8 ≠ 0) : px_nb b n a0 s u := fun q0 q M c g => by
  obtain ⟨⟨r, p, mid, c1, c2, c3, c4⟩, c5⟩ := h trivial
  obtain ⟨a1, a2, a3⟩ := d1 trivial
  by_cases t8 : t.1 66 8 = 0
  · obtain ⟨f1, a', f2, f3, f4⟩ := c4 t8
    rcases (px_tm_it ha).mp g with ⟨g1, _⟩ | ⟨g1, r', g2, _⟩
    · omega
    · rcases px_AR_it.mp ((f4 _ _).mp g2) with ⟨_, t', e', q1, q2, _⟩ | ⟨k, _⟩ | ⟨k, _⟩
      · obtain ⟨rfl, rfl⟩ := px_tm_fun _ _ _ _ _ f3 q1
        exact a3 t8 q ((px_rcK b n _).2.2.2.2.2.2.2.2.1.mpr q2)
      · omega
      · exact k f2
  · exact c5 q0 t8 M c g
theorem px_va_b (h : px_vb b n a0 q s t x2 x4) (ha : a0 ≤ 20) (d1 : px_tk b n 41 t u) (u8 : u.1 66 8 ≠ 0) (hw : ∀ lo hi z m, px_tr lo hi t z m → px_tr lo hi u z m) (u12 : u.1 66 12 = t.1 66 12) : px_va b n a0 q s u x2 := fun _ => by
  obtain ⟨⟨r, p, mid, c1, c2, c3, c4⟩, c5⟩ := h trivial
  exact ⟨⟨r, by rw [u12]; exact hw _ _ _ _ (px_tr_wk c1 (Int.le_refl _) c3), fun q => absurd q u8⟩, px_vb_no h ha d1 u8⟩
theorem px_va_p (h : px_vb b n a0 q s t x2 x4) (d1 : px_tk b n 41 t u) (u8 : u.1 66 8 = 0) (h3 : px_AD q v w x2 x4) (hw : ∀ lo hi z m, px_tr lo hi t z m → px_tr lo hi v z m) (v12 : v.1 66 12 = t.1 66 12) (w7 : w.1 66 7 = u.1 66 7) (w8 : w.1 66 8 = 0) : px_va b n a0 q s w x2 := fun _ => by
  obtain ⟨⟨r, p, mid, c1, c2, c3, c4⟩, c5⟩ := h trivial
  obtain ⟨a1, a2, a3⟩ := d1 trivial
  have t8 : t.1 66 8 = 0 := by omega
  obtain ⟨f1, a', f2, f3, f4⟩ := c4 t8
  have h4 := h3 mid (s.1 66 7) r p (hw _ _ _ _ c1) (by rw [v12]; exact hw _ _ _ _ c2) (by omega)
  refine ⟨⟨_, h4, fun q => ⟨f1, fun r' c' => (f4 r' c').trans ?_⟩⟩, fun _ q => absurd w8 q⟩
  rw [show w.1 66 7 = t.1 66 7 + 1 by omega]
  exact px_AR_9 px_tm_fun f2 f3 ((px_rcK b n _).2.2.2.2.2.2.2.2.1.mp (a2 u8))
theorem px_va_q (h : px_va b n a0 q s t x2) : ∃ m, px_tr q (t.1 66 12) t x2 m := by
  obtain ⟨⟨r, c1, _⟩, _⟩ := h trivial
  exact ⟨_, c1⟩
theorem px_vb_q (h : px_vb b n a0 q s t x2 x4) (hw : ∀ lo hi z m, px_tr lo hi t z m → px_tr lo hi u z m) (u12 : u.1 66 12 = t.1 66 12) : px_aq q u x2 x4 := by
  obtain ⟨⟨r, p, mid, c1, c2, c3, c4⟩, _⟩ := h trivial
  exact ⟨mid, _, _, hw _ _ _ _ c1, by rw [u12]; exact hw _ _ _ _ c2, by omega⟩
theorem px_pT_q (h : px_pT b n a0 q s t z) : px_tq q t z := by
  obtain ⟨⟨N, c1, _⟩, _⟩ := h trivial
  exact ⟨N, c1⟩
end PXT
