/-! ===== the reference: check, exactly: what holds on the way ===== -/
def px_E (b : Nat → Int) (n m : Int) (C M : List (Int × qx_T)) (s : sx_S) : Prop := True → px_TN b n m s ∧ px_DL 95 96 42 m s C ∧ px_DL 97 123 45 m s M
def px_tb (m : Int) : px_N → Prop
  | .leaf => True
  | .inner _ q _ f x => (0 ≤ q.1 ∧ q.1 < m) ∧ px_tb m f ∧ px_tb m x
theorem px_tb_snoc {m : Int} {b : px_N} : ∀ {a : px_N}, px_tb m (px_snoc a b) → px_tb m a ∧ px_tb m b
  | .leaf, h => ⟨trivial, h⟩
  | .inner _ _ _ _ _, h => ⟨⟨h.1, h.2.1, (px_tb_snoc h.2.2).1⟩, (px_tb_snoc h.2.2).2⟩
def px_C1 (b : Nat → Int) (n : Int) (C M Γ : List (Int × qx_T)) (ρ : List Int) (n' : px_N) (t : sx_S) (N : rf_N) (z : Int) : Prop := True → (t.1 66 40 = 0 → ∃ y, (px_wt (px_SN b n) C M n').1 Γ y ∧ qx_is t y z ∧ (px_lk (px_SN b n) C M N n').1 Γ ρ) ∧ (t.1 66 40 ≠ 0 → ∀ y, ¬ (px_wt (px_SN b n) C M n').1 Γ y)
def px_C2 (b : Nat → Int) (n : Int) (C M Γ : List (Int × qx_T)) (ρ : List Int) (n' : px_N) (a : Int) (t : sx_S) (o v : Int) (D : rf_N) (D' : px_N) (x2 : Int) : Prop := True → (t.1 66 40 = 0 → ∃ i U W, px_hd (px_SN b n) C M Γ a o i U ∧ (o = 2 → v = px_id ρ i) ∧ (px_wt (px_SN b n) C M D').2 Γ U W ∧ qx_is t W x2 ∧ (px_lk (px_SN b n) C M D D').2 Γ ρ) ∧ (t.1 66 40 ≠ 0 → ∀ y, ¬ (px_wt (px_SN b n) C M n').1 Γ y)
def px_C3 (b : Nat → Int) (n : Int) (C M Γ : List (Int × qx_T)) (ρ : List Int) (n' : px_N) (a : Int) (t : sx_S) (o v : Int) (D : rf_N) (D' : px_N) (N : rf_N) (g' : px_N) (x2 : Int) : Prop := True → (t.1 66 40 = 0 → ∃ i U A B, px_hd (px_SN b n) C M Γ a o i U ∧ (o = 2 → v = px_id ρ i) ∧ (px_wt (px_SN b n) C M D').2 Γ U (qx_a A B) ∧ qx_is t (qx_a A B) x2 ∧ (px_lk (px_SN b n) C M D D').2 Γ ρ ∧ (px_wt (px_SN b n) C M g').1 Γ A ∧ (px_lk (px_SN b n) C M N g').1 Γ ρ) ∧ (t.1 66 40 ≠ 0 → ∀ y, ¬ (px_wt (px_SN b n) C M n').1 Γ y)
section PXC
variable {b : Nat → Int} {n m : Int} {C M Γ : List (Int × qx_T)} {ρ : List Int} {s t u : sx_S} {a o v z x2 x4 : Int} {D N FM X : rf_N} {D' g' f' x' n' : px_N} {q : Int × qx_T} {u0 u1 : Unit} {j : Nat}
theorem px_C1_w {g : Nat} (hg : g = 0) (h5 : 5 < qx_at q.2) (t40 : t.1 66 40 ≠ 0) : px_C1 b n C M Γ ρ (.inner g q u0 f' x') t N z := fun _ => ⟨fun h => absurd h t40, fun _ y h => by
  rcases h with ⟨_, h, _⟩ | ⟨h, _⟩
  · omega
  · exact h hg⟩
theorem px_C1_l {g : Nat} {k : Int × Int} (hg : g = 0) (hk : k.1 = 0) (h : px_C1 b n C M (q :: Γ) (k.2 :: ρ) f' u FM x2) (u40 : u.1 66 40 = 0) (t40 : t.1 66 40 = 0) (h5 : qx_at q.2 ≤ 5) (hq : ∀ y, qx_is u y x2 → qx_is t (qx_a q.2 y) z) (hw : ∀ x ∈ ρ, x < k.2) : px_C1 b n C M Γ ρ (.inner g q u0 f' x') t (.inner j k u1 FM X) z := fun _ => by
  obtain ⟨y, h1, h2, h3⟩ := (h trivial).1 u40
  exact ⟨fun _ => ⟨qx_a q.2 y, Or.inl ⟨hg, h5, y, h1, rfl⟩, hq y h2, Or.inl ⟨hk, hg, hw, h3⟩⟩, fun e => absurd t40 e⟩
theorem px_C1_lb {g : Nat} {ρ' : List Int} (hg : g = 0) (h : px_C1 b n C M (q :: Γ) ρ' f' u FM x2) (u40 : u.1 66 40 ≠ 0) (t40 : t.1 66 40 ≠ 0) : px_C1 b n C M Γ ρ (.inner g q u0 f' x') t N z := fun _ => ⟨fun e => absurd e t40, fun _ y hh => by
  rcases hh with ⟨_, _, B, h1, _⟩ | ⟨h1, _⟩
  · exact (h trivial).2 u40 B h1
  · exact h1 hg⟩
theorem px_C2_0 {g : Nat} (hg : g ≠ 0) {r : Int} (h : px_mq b n C M Γ s t r z) (ha : s.2.1 75 r.toNat = q.1) (hid : ∀ k, k < Γ.length → s.2.1 94 k = px_id ρ k) (h40 : s.1 66 40 = 0) : px_C2 b n C M Γ ρ (.inner g q u0 f' x') q.1 t (t.2.1 83 r.toNat) (t.2.1 82 r.toNat) .leaf .leaf z := fun _ => by
  obtain ⟨h1, h2⟩ := h trivial
  rw [ha] at h1 h2
  refine ⟨fun e => ?_, fun e y hh => ?_⟩
  · obtain ⟨o, k, U, a1, a2, a3, a4, a5⟩ := h1 e
    refine ⟨k, U, U, by rw [a2]; exact a1, fun e2 => ?_, rfl, a5, trivial⟩
    have e3 : o = 2 := a2.symm.trans e2
    rw [a3 e3]
    refine hid k ?_
    rcases a1 with ⟨_, a1⟩ | ⟨a1, _⟩ | ⟨a1, _⟩
    · exact px_vr_lt a1
    · omega
    · omega
  · rcases hh with ⟨hh, _⟩ | ⟨_, o, k, U, hh, _⟩
    · exact hg hh
    · exact h2 h40 e o k U hh
/-- what a NAME with ARGs wants, once its head is known -/
theorem px_wt_row {g : Nat} (hg : g ≠ 0) {i : Nat} {U W y : qx_T} {p' : px_N} (hh : px_hd (px_SN b n) C M Γ q.1 o i U) (hD : (px_wt (px_SN b n) C M D').2 Γ U W) (hf : f' = px_snoc D' p') (h : (px_wt (px_SN b n) C M (.inner g q u0 f' x')).1 Γ y) : (px_wt (px_SN b n) C M p').2 Γ W y := by
  rcases h with ⟨h, _⟩ | ⟨_, o', i', U', h1, h2, _⟩
  · exact absurd h hg
  · obtain ⟨_, _, rfl⟩ := px_hd_fun hh h1
    rw [hf] at h2
    obtain ⟨w, h3, h4⟩ := px_wt_snoc.mp h2
    rw [px_wt_fun.2 hD h3]
    exact h4
theorem px_C2_c {g gg : Nat} {gq : Int × qx_T} {gu : Unit} {gf gx : px_N} (hg : g ≠ 0) (h : px_C2 b n C M Γ ρ (.inner g q u0 f' x') q.1 u o v D D' x2) (u40 : u.1 66 40 = 0) (hc : px_C1 b n C M Γ ρ (.inner gg gq gu gf gx) t N x4) (hf : f' = px_snoc D' (.inner gg gq gu gf gx)) (tu : rf_tu u t) : px_C2 b n C M Γ ρ (.inner g q u0 f' x') q.1 t o v D D' x2 := fun _ => by
  obtain ⟨i, U, W, a1, a2, a3, a4, a5⟩ := (h trivial).1 u40
  refine ⟨fun _ => ⟨i, U, W, a1, a2, a3, qx_is_up a4 tu, a5⟩, fun e y hh => ?_⟩
  obtain ⟨A, B, _, h2, _⟩ := px_wt_c.mp (px_wt_row hg a1 a3 hf hh)
  exact (hc trivial).2 e A h2
theorem px_C2_n {g : Nat} (hg : g ≠ 0) (h : px_C2 b n C M Γ ρ (.inner g q u0 f' x') q.1 u o v D D' x2) (t40 : t.1 66 40 ≠ 0) (hn : u.1 66 40 = 0 → ∀ y, ¬ (px_wt (px_SN b n) C M (.inner g q u0 f' x')).1 Γ y) {o2 v2 x3 : Int} {D2 : rf_N} {D2' : px_N} : px_C2 b n C M Γ ρ (.inner g q u0 f' x') q.1 t o2 v2 D2 D2' x3 := fun _ => ⟨fun e => absurd e t40, fun _ => by
  by_cases e : u.1 66 40 = 0
  · exact hn e
  · exact (h trivial).2 e⟩
theorem px_C3_n (t40 : t.1 66 40 ≠ 0) (hn : ∀ y, ¬ (px_wt (px_SN b n) C M n').1 Γ y) : px_C3 b n C M Γ ρ n' a t o v D D' N g' x2 := fun _ => ⟨fun e => absurd e t40, fun _ => hn⟩
/-- compared: the same, or not -/
theorem px_C3_s {g gg : Nat} {gq : Int × qx_T} {gu : Unit} {gf gx : px_N} (hg : g ≠ 0) (h : px_C2 b n C M Γ ρ (.inner g q u0 f' x') q.1 u o v D D' x2) (hc : px_C1 b n C M Γ ρ (.inner gg gq gu gf gx) u N x4) (u40 : u.1 66 40 = 0) (hf : f' = px_snoc D' (.inner gg gq gu gf gx)) (hx : 2 ≤ x2) : ∃ A X, qx_is u A (u.2.1 72 x2.toNat) ∧ qx_is u X x4 ∧ (A = X → px_C3 b n C M Γ ρ (.inner g q u0 f' x') q.1 u o v D D' N (.inner gg gq gu gf gx) x2) ∧ (A ≠ X → ∀ y, ¬ (px_wt (px_SN b n) C M (.inner g q u0 f' x')).1 Γ y) := by
  obtain ⟨i, U, W, a1, a2, a3, a4, a5⟩ := (h trivial).1 u40
  obtain ⟨X, b1, b2, b3⟩ := (hc trivial).1 u40
  obtain ⟨A, B, e, c1, c2⟩ := qx_ty_a a4 hx
  subst e
  refine ⟨A, X, c1, b2, fun e => ?_, fun hne y hh => ?_⟩
  · subst e
    exact fun _ => ⟨fun _ => ⟨i, U, A, B, a1, a2, a3, a4, a5, b1, b3⟩, fun e => absurd u40 e⟩
  · obtain ⟨A', B', d1, d2, _⟩ := px_wt_c.mp (px_wt_row hg a1 a3 hf hh)
    obtain ⟨rfl, _⟩ := qx_a_inj d1
    exact hne (px_wt_fun.1 d2 b1)
theorem px_C3_l {g gg : Nat} {gq : Int × qx_T} {gu : Unit} {gf gx : px_N} (hg : g ≠ 0) (h : px_C2 b n C M Γ ρ (.inner g q u0 f' x') q.1 u o v D D' x2) (u40 : u.1 66 40 = 0) (hf : f' = px_snoc D' (.inner gg gq gu gf gx)) (hx : x2 < 2) : ∀ y, ¬ (px_wt (px_SN b n) C M (.inner g q u0 f' x')).1 Γ y := by
  intro y hh
  obtain ⟨i, U, W, a1, a2, a3, a4, a5⟩ := (h trivial).1 u40
  obtain ⟨A', B', d1, d2, _⟩ := px_wt_c.mp (px_wt_row hg a1 a3 hf hh)
  rw [d1] at a4
  rcases a4.2 with ⟨e, _⟩ | ⟨_, e, _⟩
  · cases e
  · omega
/-- one ARG more -/
theorem px_C2_s {g gg : Nat} {gq : Int × qx_T} {gu : Unit} {gf gx : px_N} {gj : Nat} {gk : Int × Int} {gv : Unit} {gf2 gx2 : rf_N} (h : px_C3 b n C M Γ ρ n' a u o v D D' (.inner gj gk gv gf2 gx2) (.inner gg gq gu gf gx) x2) (hy : u.1 66 40 = 0 → z = u.2.1 73 x2.toNat) : px_C2 b n C M Γ ρ n' a u o v (rf_snoc D (.inner gj gk gv gf2 .leaf)) (px_snoc D' (.inner gg gq gu gf .leaf)) z := fun _ => by
  refine ⟨fun e => ?_, (h trivial).2⟩
  obtain ⟨i, U, A, B, a1, a2, a3, a4, a5, a6, a7⟩ := (h trivial).1 e
  have a8 : (px_lk (px_SN b n) C M (.inner gj gk gv gf2 .leaf) (.inner gg gq gu gf .leaf)).2 Γ ρ := ⟨a7, trivial⟩
  refine ⟨i, U, B, a1, a2, px_wt_snoc.mpr ⟨_, a3, A, B, rfl, a6, rfl⟩, ?_, px_lk_snoc a8 a5⟩
  rcases a4.2 with ⟨e, _⟩ | ⟨_, _, _, e2⟩
  · cases e
  · rw [hy e]
    exact e2
/-- all ARGs -/
theorem px_C1_a {g : Nat} {k : Int × Int} (hg : g ≠ 0) (hk : k.1 ≠ 0) (h : px_C2 b n C M Γ ρ (.inner g q u0 f' x') q.1 u k.1 k.2 FM f' x2) (tu : rf_tu u t) (h40 : t.1 66 40 = 0 → u.1 66 40 = 0) (hp : u.1 66 40 = 0 → k.1 = 3 → (px_lk (px_SN b n) C M FM f').2 Γ ρ → (t.1 66 40 = 0 ↔ px_pt' (px_SN b n) Γ f')) (h3 : u.1 66 40 = 0 → k.1 ≠ 3 → t.1 66 40 = 0) : px_C1 b n C M Γ ρ (.inner g q u0 f' x') t (.inner j k u1 FM X) x2 := fun _ => by
  refine ⟨fun e => ?_, fun e y hh => ?_⟩
  · obtain ⟨i, U, W, a1, a2, a3, a4, a5⟩ := (h trivial).1 (h40 e)
    exact ⟨W, Or.inr ⟨hg, k.1, i, U, a1, a3, fun e3 => (hp (h40 e) e3 a5).mp e⟩, qx_is_up a4 tu, Or.inr ⟨hk, hg, i, U, a1, a2, a5⟩⟩
  · by_cases u40 : u.1 66 40 = 0
    · obtain ⟨i, U, W, a1, a2, a3, a4, a5⟩ := (h trivial).1 u40
      by_cases k3 : k.1 = 3
      · rcases hh with ⟨hh, _⟩ | ⟨_, o', i', U', h1, h2, h4⟩
        · exact hg hh
        · obtain ⟨e1, _, _⟩ := px_hd_fun a1 h1
          exact e ((hp u40 k3 a5).mpr (h4 (e1.symm.trans k3)))
      · exact e (h3 u40 k3)
    · exact (h trivial).2 u40 y hh
end PXC
/-- what was bound and declared stays -/
theorem px_E_up {b : Nat → Int} {n m : Int} {C M : List (Int × qx_T)} {s t : sx_S} (h : px_E b n m C M s) (xu : rf_xu s t) (ha : ∀ p, (p = 68 ∨ p = 69 ∨ p = 70 ∨ p = 71 ∨ p = 95 ∨ p = 97 ∨ p = 96 ∨ p = 123) → t.2.1 p = s.2.1 p) (h3 : t.1 66 3 = s.1 66 3) : px_E b n m C M t := by
  intro _
  obtain ⟨a, c, d⟩ := h trivial
  have e42 := (xu.2 0).1.2.2.2.1
  have e45 := (xu.2 0).1.2.2.2.2
  refine ⟨fun _ => ?_, fun _ => ?_, fun _ => ?_⟩
  · obtain ⟨a1, a2, a3⟩ := a trivial
    refine ⟨(ha 68 (by decide)).trans a1, h3.trans a2, fun k hk => ?_⟩
    rw [ha 69 (by decide), ha 70 (by decide), ha 71 (by decide)]
    exact a3 k hk
  · obtain ⟨c1, c2⟩ := c trivial
    refine ⟨by rw [e42]; exact c1, fun k hk => ?_⟩
    obtain ⟨e, d1, d2, d3, d4⟩ := c2 k hk
    rw [ha 95 (by decide), ha 96 (by decide)]
    exact ⟨e, d1, d2, d3, qx_is_up d4 xu.1⟩
  · obtain ⟨c1, c2⟩ := d trivial
    refine ⟨by rw [e45]; exact c1, fun k hk => ?_⟩
    obtain ⟨e, d1, d2, d3, d4⟩ := c2 k hk
    rw [ha 97 (by decide), ha 123 (by decide)]
    exact ⟨e, d1, d2, d3, qx_is_up d4 xu.1⟩
theorem px_E_FC {b : Nat → Int} {n m : Int} {C M : List (Int × qx_T)} {s t : sx_S} {S : List Nat} (h : px_E b n m C M s) (hF : rf_FC s t S) : px_E b n m C M t := px_E_up h hF.2.2.1 (fun p hp => by
  rcases hp with rfl | rfl | rfl | rfl | rfl | rfl | rfl | rfl
  · exact (hF.same 68 rfl).2
  · exact (hF.same 69 rfl).2
  · exact (hF.same 70 rfl).2
  · exact (hF.same 71 rfl).2
  · exact (hF.same 95 rfl).2
  · exact (hF.same 97 rfl).2
  · exact (hF.same 96 rfl).2
  · exact (hF.same 123 rfl).2) (hF.2.1 3 rfl)
theorem px_E_F0 {b : Nat → Int} {n m m' : Int} {C M : List (Int × qx_T)} {s t : sx_S} {S : List Nat} (h : px_E b n m C M s) (hF : rf_F0 m' s t S) : px_E b n m C M t := px_E_up h hF.2.2.1 (fun p hp => by
  rcases hp with rfl | rfl | rfl | rfl | rfl | rfl | rfl | rfl
  · exact (hF.same 68 rfl).2
  · exact (hF.same 69 rfl).2
  · exact (hF.same 70 rfl).2
  · exact (hF.same 71 rfl).2
  · exact (hF.same 95 rfl).2
  · exact (hF.same 97 rfl).2
  · exact (hF.same 96 rfl).2
  · exact (hF.same 123 rfl).2) (hF.2.1 3 rfl)
theorem px_is_F0 {m' : Int} {s t : sx_S} {S : List Nat} (hF : rf_F0 m' s t S) {N : rf_N} {n' : px_N} (h : px_is s N n') : px_is t N n' := px_is_up hF.2.2.1.1 (fun j _ => ⟨by rw [(hF.same 76 rfl).2], by rw [(hF.same 78 rfl).2]⟩) h
theorem px_EV_0 {m : Int} {s t : sx_S} {Γ : List (Int × qx_T)} (h : px_EV m s Γ) (h34 : t.1 66 34 = s.1 66 34) (xu : rf_xu s t) (ag : rf_ag 93 94 (s.1 66 34) s t) : px_EV m t Γ := by
  intro _
  obtain ⟨⟨h1, h2⟩, h3⟩ := h trivial
  refine ⟨⟨by rw [h34]; exact h1, fun k hk => ?_⟩, fun i k hik hk => ?_⟩
  · obtain ⟨e, e1, e2, e3, e4, e5⟩ := h2 k hk
    rw [ag 93 k (by omega) (by omega) (by omega), ag 94 k (by omega) (by omega) (by omega)]
    have e6 := (xu.2 (s.2.1 94 k).toNat).2.1 (by omega)
    have e7 := (xu.2 0).1.1
    refine ⟨e, e1, e2, e3, ⟨e4.1, by omega⟩, ?_⟩
    rw [e6]
    exact qx_is_up e5 xu.1
  · rw [ag 94 i (by omega) (by omega) (by omega), ag 94 k (by omega) (by omega) (by omega)]
    exact h3 i k hik hk
/-- one more bound -/
theorem px_EV_1 {m : Int} {s p : sx_S} {S : List Nat} {Γ : List (Int × qx_T)} {q : Int × qx_T} {z1 : Int} (h : px_EV m s Γ) (f3 : rf_F0 (s.1 66 34) s p S) (e34 : p.1 66 34 = s.1 66 34 + 1) (a93 : p.2.1 93 (s.1 66 34).toNat = q.1) (a94 : p.2.1 94 (s.1 66 34).toNat = z1) (hz : s.1 66 58 ≤ z1) (hz2 : z1 < p.1 66 58) (hz0 : 0 ≤ z1) (ht : 0 ≤ q.1 ∧ q.1 < m) (hty : qx_is p q.2 (p.2.1 106 z1.toNat)) : px_EV m p (q :: Γ) := by
  intro _
  obtain ⟨⟨h1, h2⟩, h3⟩ := h trivial
  have xu := f3.2.2.1
  have ag := f3.2.2.2.1
  have hl : (s.1 66 34).toNat = Γ.length := by omega
  refine ⟨⟨by rw [List.length_cons, e34]; push_cast; omega, fun k hk => ?_⟩, fun i k hik hk => ?_⟩
  · rw [List.length_cons] at hk ⊢
    by_cases hk2 : k < Γ.length
    · obtain ⟨e, e1, e2, e3, e4, e5⟩ := h2 k hk2
      rw [ag 93 k (by omega) (by omega) (by omega), ag 94 k (by omega) (by omega) (by omega)]
      have e6 := (xu.2 (s.2.1 94 k).toNat).2.1 (by omega)
      have e7 := (xu.2 0).1.1
      refine ⟨e, ?_, e2, e3, ⟨e4.1, by omega⟩, ?_⟩
      · rw [show Γ.length + 1 - 1 - k = (Γ.length - 1 - k) + 1 by omega, List.getElem?_cons_succ]
        exact e1
      · rw [e6]
        exact qx_is_up e5 xu.1
    · have ek : k = Γ.length := by omega
      subst ek
      rw [hl] at a93 a94
      refine ⟨q, by rw [show Γ.length + 1 - 1 - Γ.length = 0 by omega]; rfl, a93, ht, by rw [a94]; exact ⟨hz0, hz2⟩, by rw [a94]; exact hty⟩
  · rw [List.length_cons] at hk
    rw [ag 94 i (by omega) (by omega) (by omega)]
    by_cases hk2 : k < Γ.length
    · rw [ag 94 k (by omega) (by omega) (by omega)]
      exact h3 i k hik hk2
    · have ek : k = Γ.length := by omega
      subst ek
      rw [hl] at a94
      rw [a94]
      obtain ⟨e, _, _, _, e4, _⟩ := h2 i (by omega)
      omega
theorem px_ga_len (s : sx_S) : ∀ k : Nat, (rf_ga s k).length = k
  | 0 => rfl
  | k + 1 => by
    show (rf_ga s k).length + 1 = _
    rw [px_ga_len s k]
theorem px_ga_id {s : sx_S} : ∀ {n k : Nat}, k < n → px_id (rf_ga s n) k = s.2.1 94 k
  | 0, k, h => absurd h (Nat.not_lt_zero _)
  | n + 1, k, h => by
    show px_id (s.2.1 94 n :: rf_ga s n) k = _
    by_cases hk : k < n
    · rw [px_id_cons (by rw [px_ga_len]; exact hk)]
      exact px_ga_id hk
    · have e : k = (rf_ga s n).length := by
        rw [px_ga_len]
        omega
      rw [e, px_id_top, px_ga_len]
theorem px_ga_so {s : sx_S} : ∀ {n : Nat}, (∀ j k : Nat, j < k → k < n → s.2.1 94 j < s.2.1 94 k) → px_so (rf_ga s n)
  | 0, _ => trivial
  | n + 1, h => by
    refine ⟨fun x hx => ?_, px_ga_so (fun j k a b => h j k a (by omega))⟩
    obtain ⟨i, hi, e⟩ := List.getElem_of_mem hx
    rw [px_ga_len] at hi
    have e2 : px_id (rf_ga s n) (n - 1 - i) = x := by
      unfold px_id
      rw [px_ga_len, show n - 1 - (n - 1 - i) = i by omega, List.getElem?_eq_getElem (by rw [px_ga_len]; exact hi), e]
      rfl
    rw [← e2, px_ga_id (by omega)]
    exact h _ _ (by omega) (by omega)
theorem px_EV_so {m : Int} {s : sx_S} {Γ : List (Int × qx_T)} (h : px_EV m s Γ) : px_so (rf_ga s (s.1 66 34).toNat) ∧ (rf_ga s (s.1 66 34).toNat).length = Γ.length ∧ ∀ k, k < Γ.length → s.2.1 94 k = px_id (rf_ga s (s.1 66 34).toNat) k := by
  obtain ⟨⟨h1, h2⟩, h3⟩ := h trivial
  have e : (s.1 66 34).toNat = Γ.length := by omega
  rw [e]
  exact ⟨px_ga_so h3, px_ga_len _ _, fun k hk => (px_ga_id hk).symm⟩
theorem px_EV_lt {m : Int} {s : sx_S} {Γ : List (Int × qx_T)} (h : px_EV m s Γ) : ∀ x ∈ rf_ga s (s.1 66 34).toNat, x < s.1 66 58 := by
  obtain ⟨⟨h1, h2⟩, h3⟩ := h trivial
  intro x hx
  have e : (s.1 66 34).toNat = Γ.length := by omega
  rw [e] at hx
  obtain ⟨i, hi, e2⟩ := List.getElem_of_mem hx
  rw [px_ga_len] at hi
  have e3 : px_id (rf_ga s Γ.length) (Γ.length - 1 - i) = x := by
    unfold px_id
    rw [px_ga_len, show Γ.length - 1 - (Γ.length - 1 - i) = i by omega, List.getElem?_eq_getElem (by rw [px_ga_len]; exact hi), e2]
    rfl
  rw [← e3, px_ga_id (by omega)]
  obtain ⟨_, _, _, _, e4, _⟩ := h2 (Γ.length - 1 - i) (by omega)
  exact e4.2
