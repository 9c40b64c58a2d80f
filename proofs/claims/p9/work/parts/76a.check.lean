/-! ===== the reference: check, with what every NAME means ===== -/
def vk_lk (SN : Int → Int → Prop) (C M : List (Int × qx_T)) : rf_N → px_N → (List (Int × qx_T) → List Int → Prop) × (List (Int × qx_T) → List Int → Prop)
  | .leaf, .leaf => (fun _ _ => False, fun _ _ => True)
  | .inner _ k _ f x, .inner g q _ f' x' => (fun Γ ρ => ((k.1 = 0 ∧ g = 0 ∧ (∀ w ∈ ρ, w < k.2) ∧ (vk_lk SN C M f f').1 (q :: Γ) (k.2 :: ρ)) ∨ (k.1 ≠ 0 ∧ g ≠ 0 ∧ ∃ i u, px_hd SN C M Γ q.1 k.1 i u ∧ ((k.1 = 2 → k.2 = px_id ρ i) ∧ (k.1 ≠ 2 → k.2 = (i : Int))) ∧ (vk_lk SN C M f f').2 Γ ρ)), fun Γ ρ => ((k.1 = 0 ∧ g = 0 ∧ (∀ w ∈ ρ, w < k.2) ∧ (vk_lk SN C M f f').1 (q :: Γ) (k.2 :: ρ)) ∨ (k.1 ≠ 0 ∧ g ≠ 0 ∧ ∃ i u, px_hd SN C M Γ q.1 k.1 i u ∧ ((k.1 = 2 → k.2 = px_id ρ i) ∧ (k.1 ≠ 2 → k.2 = (i : Int))) ∧ (vk_lk SN C M f f').2 Γ ρ)) ∧ (vk_lk SN C M x x').2 Γ ρ)
  | .leaf, .inner _ _ _ _ _ => (fun _ _ => False, fun _ _ => False)
  | .inner _ _ _ _ _, .leaf => (fun _ _ => False, fun _ _ => False)
theorem vk_lk_pv {SN : Int → Int → Prop} {C M : List (Int × qx_T)} : ∀ {N : rf_N} {n : px_N} {Γ : List (Int × qx_T)} {ρ : List Int}, px_so ρ → ρ.length = Γ.length → ((vk_lk SN C M N n).1 Γ ρ → ∀ us v, (∀ l ∈ us, l < Γ.length) → ((rf_lf2 N).1 (us.map (px_id ρ)) v ↔ ∃ l, v = px_id ρ l ∧ (px_pv SN n).1 Γ us l)) ∧ ((vk_lk SN C M N n).2 Γ ρ → ∀ vs, ((rf_lf2 N).2 vs ↔ ∃ ls, vs = ls.map (px_id ρ) ∧ (px_pv SN n).2 Γ ls))
  | .leaf, .leaf, Γ, ρ, _, _ => ⟨fun h => h.elim, fun _ vs => ⟨fun h => ⟨[], h, rfl⟩, fun ⟨ls, h1, h2⟩ => by
    have e : ls = [] := h2
    rw [e] at h1
    exact h1⟩⟩
  | .leaf, .inner _ _ _ _ _, _, _, _, _ => ⟨fun h => h.elim, fun h => h.elim⟩
  | .inner _ _ _ _ _, .leaf, _, _, _, _ => ⟨fun h => h.elim, fun h => h.elim⟩
  | .inner j k u f x, .inner g q u' f' x', Γ, ρ, hs, hl => by
    have h1 : (vk_lk SN C M (.inner j k u f x) (.inner g q u' f' x')).1 Γ ρ → ∀ us v, (∀ l ∈ us, l < Γ.length) → ((rf_lf2 (.inner j k u f x)).1 (us.map (px_id ρ)) v ↔ ∃ l, v = px_id ρ l ∧ (px_pv SN (.inner g q u' f' x')).1 Γ us l) := by
      intro h us v hus
      rcases h with ⟨k0, g0, hw, h⟩ | ⟨k0, g0, i, y, hh, h2, h⟩
      · have ih := (vk_lk_pv (N := f) (n := f') (Γ := q :: Γ) (ρ := k.2 :: ρ) ⟨hw, hs⟩ (by rw [List.length_cons, List.length_cons, hl])).1 h (us ++ [Γ.length]) v (fun l hl' => by
          rw [List.length_cons]
          rcases List.mem_append.mp hl' with z | z
          · have := hus l z
            omega
          · have : l = Γ.length := by simpa using z
            omega)
        have e : (us ++ [Γ.length]).map (px_id (k.2 :: ρ)) = us.map (px_id ρ) ++ [k.2] := by
          rw [List.map_append]
          congr 1
          · apply List.map_congr_left
            intro l hl'
            exact px_id_cons (by rw [hl]; exact hus l hl')
          · rw [List.map_cons, List.map_nil, ← hl, px_id_top]
        rw [e] at ih
        constructor
        · rintro (⟨_, z⟩ | ⟨z, _⟩)
          · obtain ⟨l, l1, l2⟩ := ih.mp z
            have l3 := (px_pv_lt (n := f')).1 l2
            have l4 := px_pv_no l2
            rw [List.length_cons] at l3
            have l5 : l ≠ Γ.length := fun e => l4 (List.mem_append_right _ (by rw [e]; exact List.mem_cons_self))
            exact ⟨l, by rw [l1, px_id_cons (by omega)], Or.inl ⟨g0, l2⟩⟩
          · omega
        · rintro ⟨l, l1, ⟨_, l2⟩ | ⟨l2, _⟩⟩
          · have l3 := (px_pv_lt (n := f')).1 l2
            have l4 := px_pv_no l2
            rw [List.length_cons] at l3
            have l5 : l ≠ Γ.length := fun e => l4 (List.mem_append_right _ (by rw [e]; exact List.mem_cons_self))
            exact Or.inl ⟨k0, ih.mpr ⟨l, by rw [l1, px_id_cons (by omega)], l2⟩⟩
          · exact absurd g0 l2
      · have ih := (vk_lk_pv (N := f) (n := f') (Γ := Γ) (ρ := ρ) hs hl).2 h
        have hus' : ∀ l ∈ us, l < ρ.length := fun l z => by
          rw [hl]
          exact hus l z
        constructor
        · rintro (⟨z, _⟩ | ⟨z, e, hn, z2⟩)
          · exact absurd z k0
          · have hv : px_vr SN Γ q.1 i y := by
              rcases hh with ⟨_, hh⟩ | ⟨hh, _⟩ | ⟨hh, _⟩
              · exact hh
              · omega
              · omega
            have il := px_vr_lt hv
            have e2 := h2.1 z
            obtain ⟨ls, m1, m2⟩ := (ih _).mp z2
            have m3 := (px_pv_lt (n := f')).2 m2
            have m4 := px_map_inj hs hus' (fun l z => by rw [hl]; exact m3 l z) m1
            refine ⟨i, by rw [← e]; exact e2, Or.inr ⟨g0, ⟨y, hv⟩, fun z3 => hn ?_, by rw [m4]; exact m2⟩⟩
            rw [← e, e2]
            exact (px_map_mem hs hus' (by omega)).mpr z3
        · rintro ⟨l, l1, ⟨l2, _⟩ | ⟨_, ⟨y', l2⟩, l3, l4⟩⟩
          · exact absurd l2 g0
          · have ll := px_vr_lt l2
            rcases hh with ⟨z, hh⟩ | ⟨_, hh, _⟩ | ⟨_, hh, _⟩
            · obtain ⟨rfl, _⟩ := px_vr_fun hh l2
              have e2 := h2.1 z
              refine Or.inr ⟨z, by rw [l1]; exact e2, fun z3 => l3 ?_, (ih _).mpr ⟨us, rfl, l4⟩⟩
              rw [l1] at z3
              exact (px_map_mem hs hus' (by omega)).mp z3
            · exact (px_vr_nv l2 hh).elim
            · exact (px_vr_nv l2 hh).elim
    refine ⟨h1, fun h vs => ?_⟩
    have a := h1 h.1 [] 
    have b := (vk_lk_pv (N := x) (n := x') (Γ := Γ) (ρ := ρ) hs hl).2 h.2
    constructor
    · intro z
      obtain ⟨w, r, e, z1, z2⟩ := rf_lf2_c.mp z
      obtain ⟨l, l1, l2⟩ := (a w (fun l z => absurd z List.not_mem_nil)).mp z1
      obtain ⟨ls, l3, l4⟩ := (b r).mp z2
      exact ⟨l :: ls, by rw [e, l1, l3]; rfl, px_pv_c.mpr ⟨l, ls, rfl, l2, l4⟩⟩
    · rintro ⟨ls, e, z⟩
      obtain ⟨l, ls', e2, z1, z2⟩ := px_pv_c.mp z
      subst e2
      rw [e]
      exact rf_lf2_c.mpr ⟨px_id ρ l, ls'.map (px_id ρ), rfl, (a _ (fun l z => absurd z List.not_mem_nil)).mpr ⟨l, rfl, z1⟩, (b _).mpr ⟨ls', rfl, z2⟩⟩
/-- the unknown's ARGs are distinct variables, in both ways of saying it -/
theorem vk_lk_pt {SN : Int → Int → Prop} {C M Γ : List (Int × qx_T)} {ρ : List Int} {N : rf_N} {n : px_N} (hs : px_so ρ) (hl : ρ.length = Γ.length) (h : (vk_lk SN C M N n).2 Γ ρ) : (∃ vs, (rf_lf2 N).2 vs ∧ vs.Nodup) ↔ px_pt' SN Γ n := by
  have a := (vk_lk_pv hs hl).2 h
  constructor
  · rintro ⟨vs, h1, h2⟩
    obtain ⟨ls, h3, h4⟩ := (a vs).mp h1
    rw [h3] at h2
    exact ⟨ls, h4, (px_map_nd hs (fun l z => by rw [hl]; exact (px_pv_lt (n := n)).2 h4 l z)).mp h2⟩
  · rintro ⟨ls, h1, h2⟩
    exact ⟨ls.map (px_id ρ), (a _).mpr ⟨ls, rfl, h1⟩, (px_map_nd hs (fun l z => by rw [hl]; exact (px_pv_lt (n := n)).2 h1 l z)).mpr h2⟩
theorem vk_lk_snoc {SN : Int → Int → Prop} {C M Γ : List (Int × qx_T)} {ρ : List Int} {P : rf_N} {P' : px_N} (hp : (vk_lk SN C M P P').2 Γ ρ) : ∀ {N : rf_N} {n : px_N}, (vk_lk SN C M N n).2 Γ ρ → (vk_lk SN C M (rf_snoc N P) (px_snoc n P')).2 Γ ρ
  | .leaf, .leaf, _ => hp
  | .leaf, .inner _ _ _ _ _, h => h.elim
  | .inner _ _ _ _ _, .leaf, h => h.elim
  | .inner _ _ _ _ _, .inner _ _ _ _ _, h => ⟨h.1, vk_lk_snoc hp h.2⟩
def vk_C1 (b : Nat → Int) (n : Int) (C M Γ : List (Int × qx_T)) (ρ : List Int) (n' : px_N) (t : sx_S) (N : rf_N) (z : Int) : Prop := True → (t.1 66 40 = 0 → ∃ y, (px_wt (px_SN b n) C M n').1 Γ y ∧ qx_is t y z ∧ (vk_lk (px_SN b n) C M N n').1 Γ ρ) ∧ (t.1 66 40 ≠ 0 → ∀ y, ¬ (px_wt (px_SN b n) C M n').1 Γ y)
def vk_C2 (b : Nat → Int) (n : Int) (C M Γ : List (Int × qx_T)) (ρ : List Int) (n' : px_N) (a : Int) (t : sx_S) (o v : Int) (D : rf_N) (D' : px_N) (x2 : Int) : Prop := True → (t.1 66 40 = 0 → ∃ i U W, px_hd (px_SN b n) C M Γ a o i U ∧ ((o = 2 → v = px_id ρ i) ∧ (o ≠ 2 → v = (i : Int))) ∧ (px_wt (px_SN b n) C M D').2 Γ U W ∧ qx_is t W x2 ∧ (vk_lk (px_SN b n) C M D D').2 Γ ρ) ∧ (t.1 66 40 ≠ 0 → ∀ y, ¬ (px_wt (px_SN b n) C M n').1 Γ y)
def vk_C3 (b : Nat → Int) (n : Int) (C M Γ : List (Int × qx_T)) (ρ : List Int) (n' : px_N) (a : Int) (t : sx_S) (o v : Int) (D : rf_N) (D' : px_N) (N : rf_N) (g' : px_N) (x2 : Int) : Prop := True → (t.1 66 40 = 0 → ∃ i U A B, px_hd (px_SN b n) C M Γ a o i U ∧ ((o = 2 → v = px_id ρ i) ∧ (o ≠ 2 → v = (i : Int))) ∧ (px_wt (px_SN b n) C M D').2 Γ U (qx_a A B) ∧ qx_is t (qx_a A B) x2 ∧ (vk_lk (px_SN b n) C M D D').2 Γ ρ ∧ (px_wt (px_SN b n) C M g').1 Γ A ∧ (vk_lk (px_SN b n) C M N g').1 Γ ρ) ∧ (t.1 66 40 ≠ 0 → ∀ y, ¬ (px_wt (px_SN b n) C M n').1 Γ y)
section VKC
variable {b : Nat → Int} {n m : Int} {C M Γ : List (Int × qx_T)} {ρ : List Int} {s t u : sx_S} {a o v z x2 x4 : Int} {D N FM X : rf_N} {D' g' f' x' n' : px_N} {q : Int × qx_T} {u0 u1 : Unit} {j : Nat}
theorem vk_C1_w {g : Nat} (hg : g = 0) (h5 : 5 < qx_at q.2) (t40 : t.1 66 40 ≠ 0) : vk_C1 b n C M Γ ρ (.inner g q u0 f' x') t N z := fun _ => ⟨fun h => absurd h t40, fun _ y h => by
  rcases h with ⟨_, h, _⟩ | ⟨h, _⟩
  · omega
  · exact h hg⟩
theorem vk_C1_l {g : Nat} {k : Int × Int} (hg : g = 0) (hk : k.1 = 0) (h : vk_C1 b n C M (q :: Γ) (k.2 :: ρ) f' u FM x2) (u40 : u.1 66 40 = 0) (t40 : t.1 66 40 = 0) (h5 : qx_at q.2 ≤ 5) (hq : ∀ y, qx_is u y x2 → qx_is t (qx_a q.2 y) z) (hw : ∀ x ∈ ρ, x < k.2) : vk_C1 b n C M Γ ρ (.inner g q u0 f' x') t (.inner j k u1 FM X) z := fun _ => by
  obtain ⟨y, h1, h2, h3⟩ := (h trivial).1 u40
  exact ⟨fun _ => ⟨qx_a q.2 y, Or.inl ⟨hg, h5, y, h1, rfl⟩, hq y h2, Or.inl ⟨hk, hg, hw, h3⟩⟩, fun e => absurd t40 e⟩
theorem vk_C1_lb {g : Nat} {ρ' : List Int} (hg : g = 0) (h : vk_C1 b n C M (q :: Γ) ρ' f' u FM x2) (u40 : u.1 66 40 ≠ 0) (t40 : t.1 66 40 ≠ 0) : vk_C1 b n C M Γ ρ (.inner g q u0 f' x') t N z := fun _ => ⟨fun e => absurd e t40, fun _ y hh => by
  rcases hh with ⟨_, _, B, h1, _⟩ | ⟨h1, _⟩
  · exact (h trivial).2 u40 B h1
  · exact h1 hg⟩
theorem vk_C2_0 {g : Nat} (hg : g ≠ 0) {r : Int} (h : px_mq b n C M Γ s t r z) (ha : s.2.1 75 r.toNat = q.1) (hid : ∀ k, k < Γ.length → s.2.1 94 k = px_id ρ k) (h40 : s.1 66 40 = 0) : vk_C2 b n C M Γ ρ (.inner g q u0 f' x') q.1 t (t.2.1 83 r.toNat) (t.2.1 82 r.toNat) .leaf .leaf z := fun _ => by
  obtain ⟨h1, h2⟩ := h trivial
  rw [ha] at h1 h2
  refine ⟨fun e => ?_, fun e y hh => ?_⟩
  · obtain ⟨o, k, U, a1, a2, a3, a4, a5⟩ := h1 e
    refine ⟨k, U, U, by rw [a2]; exact a1, ⟨fun e2 => ?_, fun e2 => a4 (fun e3 => e2 (a2.trans e3))⟩, rfl, a5, trivial⟩
    have e3 : o = 2 := a2.symm.trans e2
    rw [a3 e3]
    refine hid k ?_
    rcases a1 with ⟨_, a1⟩ | ⟨a1, _⟩ | ⟨a1, _⟩
    · exact px_vr_lt a1
    · omega
    · omega
  · rcases hh with ⟨hh, _⟩ | ⟨_, o, k, U, hh, _⟩
    · exact hg hh
    · exact h2 h40 e o k U hh
theorem vk_C2_c {g gg : Nat} {gq : Int × qx_T} {gu : Unit} {gf gx : px_N} (hg : g ≠ 0) (h : vk_C2 b n C M Γ ρ (.inner g q u0 f' x') q.1 u o v D D' x2) (u40 : u.1 66 40 = 0) (hc : vk_C1 b n C M Γ ρ (.inner gg gq gu gf gx) t N x4) (hf : f' = px_snoc D' (.inner gg gq gu gf gx)) (tu : rf_tu u t) : vk_C2 b n C M Γ ρ (.inner g q u0 f' x') q.1 t o v D D' x2 := fun _ => by
  obtain ⟨i, U, W, a1, a2, a3, a4, a5⟩ := (h trivial).1 u40
  refine ⟨fun _ => ⟨i, U, W, a1, a2, a3, qx_is_up a4 tu, a5⟩, fun e y hh => ?_⟩
  obtain ⟨A, B, _, h2, _⟩ := px_wt_c.mp (px_wt_row hg a1 a3 hf hh)
  exact (hc trivial).2 e A h2
theorem vk_C2_n {g : Nat} (hg : g ≠ 0) (h : vk_C2 b n C M Γ ρ (.inner g q u0 f' x') q.1 u o v D D' x2) (t40 : t.1 66 40 ≠ 0) (hn : u.1 66 40 = 0 → ∀ y, ¬ (px_wt (px_SN b n) C M (.inner g q u0 f' x')).1 Γ y) {o2 v2 x3 : Int} {D2 : rf_N} {D2' : px_N} : vk_C2 b n C M Γ ρ (.inner g q u0 f' x') q.1 t o2 v2 D2 D2' x3 := fun _ => ⟨fun e => absurd e t40, fun _ => by
  by_cases e : u.1 66 40 = 0
  · exact hn e
  · exact (h trivial).2 e⟩
theorem vk_C3_n (t40 : t.1 66 40 ≠ 0) (hn : ∀ y, ¬ (px_wt (px_SN b n) C M n').1 Γ y) : vk_C3 b n C M Γ ρ n' a t o v D D' N g' x2 := fun _ => ⟨fun e => absurd e t40, fun _ => hn⟩
/-- compared: the same, or not -/
theorem vk_C3_s {g gg : Nat} {gq : Int × qx_T} {gu : Unit} {gf gx : px_N} (hg : g ≠ 0) (h : vk_C2 b n C M Γ ρ (.inner g q u0 f' x') q.1 u o v D D' x2) (hc : vk_C1 b n C M Γ ρ (.inner gg gq gu gf gx) u N x4) (u40 : u.1 66 40 = 0) (hf : f' = px_snoc D' (.inner gg gq gu gf gx)) (hx : 2 ≤ x2) : ∃ A X, qx_is u A (u.2.1 72 x2.toNat) ∧ qx_is u X x4 ∧ (A = X → vk_C3 b n C M Γ ρ (.inner g q u0 f' x') q.1 u o v D D' N (.inner gg gq gu gf gx) x2) ∧ (A ≠ X → ∀ y, ¬ (px_wt (px_SN b n) C M (.inner g q u0 f' x')).1 Γ y) := by
  obtain ⟨i, U, W, a1, a2, a3, a4, a5⟩ := (h trivial).1 u40
  obtain ⟨X, b1, b2, b3⟩ := (hc trivial).1 u40
  obtain ⟨A, B, e, c1, c2⟩ := qx_ty_a a4 hx
  subst e
  refine ⟨A, X, c1, b2, fun e => ?_, fun hne y hh => ?_⟩
  · subst e
    exact fun _ => ⟨fun _ => ⟨i, U, A, B, a1, a2, a3, a4, a5, b1, b3⟩, fun e => absurd u40 e⟩
  · obtain ⟨A', B', d1, d2, _⟩ := px_wt_c.mp (px_wt_row hg a1 a3 hf hh)
    obtain ⟨rfl, _⟩ := qx_a_inj d1
    exact hne (px_wt_fun.1 d2 b1)
theorem vk_C3_l {g gg : Nat} {gq : Int × qx_T} {gu : Unit} {gf gx : px_N} (hg : g ≠ 0) (h : vk_C2 b n C M Γ ρ (.inner g q u0 f' x') q.1 u o v D D' x2) (u40 : u.1 66 40 = 0) (hf : f' = px_snoc D' (.inner gg gq gu gf gx)) (hx : x2 < 2) : ∀ y, ¬ (px_wt (px_SN b n) C M (.inner g q u0 f' x')).1 Γ y := by
  intro y hh
  obtain ⟨i, U, W, a1, a2, a3, a4, a5⟩ := (h trivial).1 u40
  obtain ⟨A', B', d1, d2, _⟩ := px_wt_c.mp (px_wt_row hg a1 a3 hf hh)
  rw [d1] at a4
  rcases a4.2 with ⟨e, _⟩ | ⟨_, e, _⟩
  · cases e
  · omega
/-- one ARG more -/
theorem vk_C2_s {g gg : Nat} {gq : Int × qx_T} {gu : Unit} {gf gx : px_N} {gj : Nat} {gk : Int × Int} {gv : Unit} {gf2 gx2 : rf_N} (h : vk_C3 b n C M Γ ρ n' a u o v D D' (.inner gj gk gv gf2 gx2) (.inner gg gq gu gf gx) x2) (hy : u.1 66 40 = 0 → z = u.2.1 73 x2.toNat) : vk_C2 b n C M Γ ρ n' a u o v (rf_snoc D (.inner gj gk gv gf2 .leaf)) (px_snoc D' (.inner gg gq gu gf .leaf)) z := fun _ => by
  refine ⟨fun e => ?_, (h trivial).2⟩
  obtain ⟨i, U, A, B, a1, a2, a3, a4, a5, a6, a7⟩ := (h trivial).1 e
  have a8 : (vk_lk (px_SN b n) C M (.inner gj gk gv gf2 .leaf) (.inner gg gq gu gf .leaf)).2 Γ ρ := ⟨a7, trivial⟩
  refine ⟨i, U, B, a1, a2, px_wt_snoc.mpr ⟨_, a3, A, B, rfl, a6, rfl⟩, ?_, vk_lk_snoc a8 a5⟩
  rcases a4.2 with ⟨e, _⟩ | ⟨_, _, _, e2⟩
  · cases e
  · rw [hy e]
    exact e2
/-- all ARGs -/
theorem vk_C1_a {g : Nat} {k : Int × Int} (hg : g ≠ 0) (hk : k.1 ≠ 0) (h : vk_C2 b n C M Γ ρ (.inner g q u0 f' x') q.1 u k.1 k.2 FM f' x2) (tu : rf_tu u t) (h40 : t.1 66 40 = 0 → u.1 66 40 = 0) (hp : u.1 66 40 = 0 → k.1 = 3 → (vk_lk (px_SN b n) C M FM f').2 Γ ρ → (t.1 66 40 = 0 ↔ px_pt' (px_SN b n) Γ f')) (h3 : u.1 66 40 = 0 → k.1 ≠ 3 → t.1 66 40 = 0) : vk_C1 b n C M Γ ρ (.inner g q u0 f' x') t (.inner j k u1 FM X) x2 := fun _ => by
  refine ⟨fun e => ?_, fun e y hh => ?_⟩
  · obtain ⟨i, U, W, a1, a2, a3, a4, a5⟩ := (h trivial).1 (h40 e)
    exact ⟨W, Or.inr ⟨hg, k.1, i, U, a1, a3, fun e3 => (hp (h40 e) e3 a5).mp e⟩, qx_is_up a4 tu, Or.inr ⟨hk, hg, i, U, a1, a2, a5⟩⟩
  · by_cases u40 : u.1 66 40 = 0
    · obtain ⟨i, U, W, a1, a2, a3, a4, a5⟩ := (h trivial).1 u40
      by_cases k3 : k.1 = 3
      · rcases hh with ⟨hh, _⟩ | ⟨_, o', i', U', h1, h2, h4⟩
        · exact hg hh
        · obtain ⟨e1, _, _⟩ := px_hd_fun a1 h1
          exact e ((hp u40 k3 a5).mpr (h4 (e1.symm.trans k3)))
      · exact e (h3 u40 k3)
    · exact (h trivial).2 u40 y hh
end VKC
section VKC2
variable {b : Nat → Int} {n m : Int} {C M Γ : List (Int × qx_T)} {ρ : List Int} {s t u : sx_S} {a o v w z x2 x4 : Int} {D N FM FM' X : rf_N} {D' g' f' x' n' : px_N} {q : Int × qx_T} {u0 u1 : Unit} {j : Nat}
theorem vk_C1_l2 {g : Nat} {k : Int × Int} (hg : g = 0) (hk : k.1 = 0) (hk2 : k.2 = w) (hFM : FM' = FM) (h : vk_C1 b n C M (q :: Γ) (w :: ρ) f' u FM x2) (u40 : u.1 66 40 = 0) (t40 : t.1 66 40 = 0) (h5 : qx_at q.2 ≤ 5) (hq : ∀ y, qx_is u y x2 → qx_is t (qx_a q.2 y) z) (hw : ∀ x ∈ ρ, x < w) : vk_C1 b n C M Γ ρ (.inner g q u0 f' x') t (.inner j k u1 FM' X) z := by
  subst hk2 hFM
  exact vk_C1_l hg hk h u40 t40 h5 hq hw
theorem vk_C2_o {o' : Int} (h : vk_C2 b n C M Γ ρ n' a t o v D D' x2) (e : t.1 66 40 = 0 → o' = o) : vk_C2 b n C M Γ ρ n' a t o' v D D' x2 := fun _ => ⟨fun q => by
  rw [e q]
  exact (h trivial).1 q, (h trivial).2⟩
theorem vk_C1_a2 {g : Nat} {k : Int × Int} (hg : g ≠ 0) (ek1 : k.1 = o) (ek2 : k.2 = v) (eFM : FM' = FM) (hk : u.1 66 40 = 0 → o ≠ 0) (h : vk_C2 b n C M Γ ρ (.inner g q u0 f' x') q.1 u o v FM f' x2) (tu : rf_tu u t) (h40 : t.1 66 40 = 0 → u.1 66 40 = 0) (hp : u.1 66 40 = 0 → o = 3 → (vk_lk (px_SN b n) C M FM f').2 Γ ρ → (t.1 66 40 = 0 ↔ px_pt' (px_SN b n) Γ f')) (h3 : u.1 66 40 = 0 → o ≠ 3 → t.1 66 40 = 0) : vk_C1 b n C M Γ ρ (.inner g q u0 f' x') t (.inner j k u1 FM' X) x2 := by
  subst ek1 ek2 eFM
  by_cases u40 : u.1 66 40 = 0
  · exact vk_C1_a hg (hk u40) h tu h40 hp h3
  · exact fun _ => ⟨fun e => absurd (h40 e) u40, fun _ => (h trivial).2 u40⟩
end VKC2

