/-! ===== patterns without the look at the binders; what is made against what is read ===== -/
def px_qv (SN : Int → Int → Prop) : px_N → (List (Int × qx_T) → List Nat → Nat → Prop) × (List (Int × qx_T) → List Nat → Prop)
  | .leaf => (fun _ _ _ => False, fun _ us => us = [])
  | .inner g q _ f x => (fun Γ us v => (g = 0 ∧ (px_qv SN f).1 (q :: Γ) (us ++ [Γ.length]) v) ∨ (g ≠ 0 ∧ (∃ y, px_vr SN Γ q.1 v y) ∧ (px_qv SN f).2 Γ us), fun Γ us => ∃ u us', us = u :: us' ∧ ((g = 0 ∧ (px_qv SN f).1 (q :: Γ) ([] ++ [Γ.length]) u) ∨ (g ≠ 0 ∧ (∃ y, px_vr SN Γ q.1 u y) ∧ (px_qv SN f).2 Γ [])) ∧ (px_qv SN x).2 Γ us')
theorem px_qv_c {SN : Int → Int → Prop} {g : Nat} {q : Int × qx_T} {u0 : Unit} {f x : px_N} {Γ : List (Int × qx_T)} {us : List Nat} : (px_qv SN (.inner g q u0 f x)).2 Γ us ↔ ∃ u us', us = u :: us' ∧ (px_qv SN (.inner g q u0 f x)).1 Γ [] u ∧ (px_qv SN x).2 Γ us' := Iff.rfl
/-- the type of what is bound under l others -/
def px_tl (Γ : List (Int × qx_T)) (l : Nat) : qx_T := ((Γ[Γ.length - 1 - l]?).map (fun q => q.2)).getD .leaf
theorem px_tl_cons {q : Int × qx_T} {Γ : List (Int × qx_T)} {l : Nat} (h : l < Γ.length) : px_tl (q :: Γ) l = px_tl Γ l := by
  unfold px_tl
  rw [List.length_cons, show Γ.length + 1 - 1 - l = (Γ.length - 1 - l) + 1 by omega, List.getElem?_cons_succ]
theorem px_tl_top {q : Int × qx_T} {Γ : List (Int × qx_T)} : px_tl (q :: Γ) Γ.length = q.2 := by
  unfold px_tl
  rw [List.length_cons, show Γ.length + 1 - 1 - Γ.length = 0 by omega]
  rfl
theorem px_vr_tl {SN : Int → Int → Prop} {a : Int} : ∀ {Γ : List (Int × qx_T)} {k : Nat} {x : qx_T}, px_vr SN Γ a k x → px_tl Γ k = x
  | [], _, _, h => h.elim
  | q :: Γ, k, x, h => by
    rcases h with ⟨_, h2, h3⟩ | ⟨_, h2⟩
    · rw [h2, px_tl_top, h3]
    · rw [px_tl_cons (px_vr_lt h2)]
      exact px_vr_tl h2
theorem px_tl_5 {Γ : List (Int × qx_T)} (h : ∀ q ∈ Γ, qx_at q.2 ≤ 5) (l : Nat) : qx_at (px_tl Γ l) ≤ 5 := by
  unfold px_tl
  cases e : Γ[Γ.length - 1 - l]? with
  | none => exact Nat.le_of_ble_eq_true rfl
  | some q => exact h q (List.mem_of_getElem? e)
theorem px_pv_qv {SN : Int → Int → Prop} : ∀ {n : px_N}, (∀ {Γ : List (Int × qx_T)} {us : List Nat} {v : Nat}, (px_pv SN n).1 Γ us v → (px_qv SN n).1 Γ us v) ∧ (∀ {Γ : List (Int × qx_T)} {us : List Nat}, (px_pv SN n).2 Γ us → (px_qv SN n).2 Γ us)
  | .leaf => ⟨fun h => h.elim, fun h => h⟩
  | .inner g q u0 f x => by
    have hf := px_pv_qv (SN := SN) (n := f)
    have hx := px_pv_qv (SN := SN) (n := x)
    have h1 : ∀ {Γ : List (Int × qx_T)} {us : List Nat} {v : Nat}, (px_pv SN (.inner g q u0 f x)).1 Γ us v → (px_qv SN (.inner g q u0 f x)).1 Γ us v := by
      intro Γ us v h
      rcases h with ⟨h1, h2⟩ | ⟨h1, h2, _, h3⟩
      · exact Or.inl ⟨h1, hf.1 h2⟩
      · exact Or.inr ⟨h1, h2, hf.2 h3⟩
    refine ⟨h1, fun h => ?_⟩
    obtain ⟨u, us', e, a, b⟩ := px_pv_c.mp h
    exact px_qv_c.mpr ⟨u, us', e, h1 a, hx.2 b⟩
theorem dz_sm_m {T : qx_T} {Ts : List qx_T} (h : T ∈ Ts) : qx_at T ≤ dz_sm Ts := by
  obtain ⟨j, hj⟩ := List.mem_iff_getElem?.mp h
  exact dz_sm_mem hj
theorem px_tl_no {Γ : List (Int × qx_T)} {us : List Nat} {l : Nat} {x : qx_T} (h : px_tl Γ l = dz_as (us.map (px_tl Γ)) x) : l ∉ us := fun hl => by
  have h1 := dz_sm_m (List.mem_map_of_mem (f := px_tl Γ) hl)
  have h2 := dz_as_at x (us.map (px_tl Γ))
  rw [← h] at h2
  have := qx_at_pos x
  omega
theorem px_tl_map {Γ : List (Int × qx_T)} {q : Int × qx_T} {us : List Nat} (hus : ∀ u ∈ us, u < Γ.length) : (us ++ [Γ.length]).map (px_tl (q :: Γ)) = us.map (px_tl Γ) ++ [q.2] := by
  rw [List.map_append]
  congr 1
  · exact List.map_congr_left (fun l hl => px_tl_cons (hus l hl))
  · rw [List.map_cons, List.map_nil, px_tl_top]
theorem px_hd_v {SN : Int → Int → Prop} {C M Γ : List (Int × qx_T)} {a s : Int} {k v : Nat} {u y : qx_T} (h : px_hd SN C M Γ a s k u) (hv : px_vr SN Γ a v y) : s = 2 ∧ k = v ∧ u = y ∧ px_vr SN Γ a k u := by
  rcases h with ⟨h1, h2⟩ | ⟨_, h2, _⟩ | ⟨_, h2, _⟩
  · obtain ⟨e1, e2⟩ := px_vr_fun h2 hv
    exact ⟨h1, e1, e2, h2⟩
  · exact (px_vr_nv hv h2).elim
  · exact (px_vr_nv hv h2).elim
theorem px_hd_2 {SN : Int → Int → Prop} {C M Γ : List (Int × qx_T)} {a s : Int} {k : Nat} {u : qx_T} (h : px_hd SN C M Γ a s k u) (h2 : s = 2) : px_vr SN Γ a k u := by
  rcases h with ⟨_, h⟩ | ⟨h1, _⟩ | ⟨h1, _⟩
  · exact h
  · omega
  · omega
theorem px_qv_ty {SN : Int → Int → Prop} {C M : List (Int × qx_T)} : ∀ {n : px_N}, (∀ {Γ : List (Int × qx_T)} {us : List Nat} {l : Nat} {x : qx_T}, (px_wt SN C M n).1 Γ x → (px_qv SN n).1 Γ us l → (∀ u ∈ us, u < Γ.length) → l < Γ.length ∧ px_tl Γ l = dz_as (us.map (px_tl Γ)) x ∧ (px_pv SN n).1 Γ us l) ∧ (∀ {Γ : List (Int × qx_T)} {us : List Nat} {u w : qx_T}, (px_wt SN C M n).2 Γ u w → (px_qv SN n).2 Γ us → (∀ v ∈ us, v < Γ.length) ∧ u = dz_as (us.map (px_tl Γ)) w ∧ (px_pv SN n).2 Γ us)
  | .leaf => ⟨fun h => h.elim, fun {Γ us u w} h g => by
    have e : us = [] := g
    subst e
    exact ⟨fun v hv => absurd hv List.not_mem_nil, h, rfl⟩⟩
  | .inner g q u0 f x => by
    have hf := px_qv_ty (SN := SN) (C := C) (M := M) (n := f)
    have hx := px_qv_ty (SN := SN) (C := C) (M := M) (n := x)
    have h1 : ∀ {Γ : List (Int × qx_T)} {us : List Nat} {l : Nat} {y : qx_T}, (px_wt SN C M (.inner g q u0 f x)).1 Γ y → (px_qv SN (.inner g q u0 f x)).1 Γ us l → (∀ u ∈ us, u < Γ.length) → l < Γ.length ∧ px_tl Γ l = dz_as (us.map (px_tl Γ)) y ∧ (px_pv SN (.inner g q u0 f x)).1 Γ us l := by
      intro Γ us l y h k hus
      rcases h with ⟨h1, h2, B, h3, h4⟩ | ⟨h1, s, j, u, h2, h3, _⟩ <;> rcases k with ⟨k1, k2⟩ | ⟨k1, ⟨y', k2⟩, k3⟩
      · obtain ⟨a1, a2, a3⟩ := hf.1 h3 k2 (fun u hu => by
          rw [List.length_cons]
          rcases List.mem_append.mp hu with z | z
          · have := hus u z
            omega
          · have : u = Γ.length := by simpa using z
            omega)
        have a4 := px_tl_no a2
        have a5 : l ≠ Γ.length := fun e => a4 (List.mem_append_right _ (by rw [e]; exact List.mem_cons_self))
        rw [List.length_cons] at a1
        have a6 : l < Γ.length := by omega
        rw [px_tl_cons a6, px_tl_map hus, ← dz_as_snoc] at a2
        exact ⟨a6, by rw [h4]; exact a2, Or.inl ⟨h1, a3⟩⟩
      · exact absurd h1 k1
      · exact absurd k1 h1
      · obtain ⟨e1, e2, e3, e4⟩ := px_hd_v h2 k2
        obtain ⟨a1, a2, a3⟩ := hf.2 h3 k3
        have a4 : px_tl Γ l = dz_as (us.map (px_tl Γ)) y := by rw [px_vr_tl k2, ← e3]; exact a2
        exact ⟨px_vr_lt k2, a4, Or.inr ⟨h1, ⟨y', k2⟩, px_tl_no a4, a3⟩⟩
    refine ⟨h1, ?_⟩
    intro Γ us u w h k
    obtain ⟨A, B, a1, a2, a3⟩ := px_wt_c.mp h
    obtain ⟨v, us', b1, b2, b3⟩ := px_qv_c.mp k
    obtain ⟨c1, c2, c3⟩ := h1 a2 b2 (fun _ q => absurd q List.not_mem_nil)
    obtain ⟨d1, d2, d3⟩ := hx.2 a3 b3
    subst b1
    refine ⟨fun z hz => ?_, ?_, px_pv_c.mpr ⟨v, us', rfl, c3, d3⟩⟩
    · rcases List.mem_cons.mp hz with rfl | hz
      · exact c1
      · exact d1 z hz
    · rw [a1, d2, List.map_cons]
      show qx_a A _ = qx_a (px_tl Γ v) _
      rw [show px_tl Γ v = A from c2]
theorem px_pv_fun {SN : Int → Int → Prop} : ∀ {n : px_N}, (∀ {Γ : List (Int × qx_T)} {us us' : List Nat} {v v' : Nat}, (px_pv SN n).1 Γ us v → (px_pv SN n).1 Γ us' v' → v = v') ∧ (∀ {Γ : List (Int × qx_T)} {us us' : List Nat}, (px_pv SN n).2 Γ us → (px_pv SN n).2 Γ us' → us = us')
  | .leaf => ⟨fun h => h.elim, fun h g => by
    rw [show _ = [] from h, show _ = [] from g]⟩
  | .inner g q u0 f x => by
    have hf := px_pv_fun (SN := SN) (n := f)
    have hx := px_pv_fun (SN := SN) (n := x)
    have h1 : ∀ {Γ : List (Int × qx_T)} {us us' : List Nat} {v v' : Nat}, (px_pv SN (.inner g q u0 f x)).1 Γ us v → (px_pv SN (.inner g q u0 f x)).1 Γ us' v' → v = v' := by
      intro Γ us us' v v' h k
      rcases h with ⟨h1, h2⟩ | ⟨h1, ⟨y, h2⟩, _, h3⟩ <;> rcases k with ⟨k1, k2⟩ | ⟨k1, ⟨y', k2⟩, _, k3⟩
      · exact hf.1 h2 k2
      · exact absurd h1 k1
      · exact absurd k1 h1
      · exact (px_vr_fun h2 k2).1
    refine ⟨h1, ?_⟩
    intro Γ us us' h k
    obtain ⟨u, r, e, a, b⟩ := px_pv_c.mp h
    obtain ⟨u', r', e', a', b'⟩ := px_pv_c.mp k
    rw [e, e', h1 a a', hx.2 b b']
theorem px_pv_snoc {SN : Int → Int → Prop} {Γ : List (Int × qx_T)} {p : px_N} : ∀ {r : px_N} {ls : List Nat}, (px_pv SN (px_snoc r p)).2 Γ ls ↔ ∃ a b, ls = a ++ b ∧ (px_pv SN r).2 Γ a ∧ (px_pv SN p).2 Γ b
  | .leaf, ls => ⟨fun h => ⟨[], ls, rfl, rfl, h⟩, fun ⟨a, b, h1, h2, h3⟩ => by
    have e : a = [] := h2
    rw [h1, e]
    exact h3⟩
  | .inner j k u f x, ls => by
    constructor
    · intro h
      obtain ⟨v, r, e, a, b⟩ := px_pv_c.mp h
      obtain ⟨a', b', e', c, d⟩ := px_pv_snoc.mp b
      exact ⟨v :: a', b', by rw [e, e']; rfl, px_pv_c.mpr ⟨v, a', rfl, a, c⟩, d⟩
    · rintro ⟨a, b, e, h, d⟩
      obtain ⟨v, r, e', a', b'⟩ := px_pv_c.mp h
      exact px_pv_c.mpr ⟨v, r ++ b, by rw [e, e']; rfl, a', px_pv_snoc.mpr ⟨r, b, rfl, b', d⟩⟩
theorem px_qv_snoc {SN : Int → Int → Prop} {Γ : List (Int × qx_T)} {p : px_N} : ∀ {r : px_N} {ls : List Nat}, (px_qv SN (px_snoc r p)).2 Γ ls ↔ ∃ a b, ls = a ++ b ∧ (px_qv SN r).2 Γ a ∧ (px_qv SN p).2 Γ b
  | .leaf, ls => ⟨fun h => ⟨[], ls, rfl, rfl, h⟩, fun ⟨a, b, h1, h2, h3⟩ => by
    have e : a = [] := h2
    rw [h1, e]
    exact h3⟩
  | .inner j k u f x, ls => by
    constructor
    · intro h
      obtain ⟨v, r, e, a, b⟩ := px_qv_c.mp h
      obtain ⟨a', b', e', c, d⟩ := px_qv_snoc.mp b
      exact ⟨v :: a', b', by rw [e, e']; rfl, px_qv_c.mpr ⟨v, a', rfl, a, c⟩, d⟩
    · rintro ⟨a, b, e, h, d⟩
      obtain ⟨v, r, e', a', b'⟩ := px_qv_c.mp h
      exact px_qv_c.mpr ⟨v, r ++ b, by rw [e, e']; rfl, a', px_qv_snoc.mpr ⟨r, b, rfl, b', d⟩⟩
/-! what is made of a TERM -/
def dz_mt (SN : Int → Int → Prop) (W : rf_N) (n : px_N) (Γ : List (Int × qx_T)) (ρ : List Int) : Prop := True → (∀ (g : Nat) (us : List Nat) (v : Int), (∀ l ∈ us, l < Γ.length) → (dz_av W).1 g (us.map (px_id ρ)) v → ∃ l, v = px_id ρ l ∧ (px_qv SN n).1 Γ us l) ∧ (∀ (g : Nat) (us : List Nat) (l : Nat), (∀ l ∈ us, l < Γ.length) → (px_qv SN n).1 Γ us l → qx_at (px_tl Γ l) ≤ g → (dz_av W).1 g (us.map (px_id ρ)) (px_id ρ l))
def dz_mr (SN : Int → Int → Prop) (F : rf_N) (f : px_N) (Γ : List (Int × qx_T)) (ρ : List Int) : Prop := True → (∀ (g : Nat) (vs : List Int), (dz_av F).2 g vs → ∃ ls, vs = ls.map (px_id ρ) ∧ (px_qv SN f).2 Γ ls) ∧ (∀ (g : Nat) (ls : List Nat), (px_qv SN f).2 Γ ls → (∀ l ∈ ls, qx_at (px_tl Γ l) ≤ g) → (dz_av F).2 g (ls.map (px_id ρ)))
theorem px_id_map {Γ : List (Int × qx_T)} {ρ : List Int} {w : Int} {us : List Nat} (hl : ρ.length = Γ.length) (hus : ∀ u ∈ us, u < Γ.length) : (us ++ [Γ.length]).map (px_id (w :: ρ)) = us.map (px_id ρ) ++ [w] := by
  rw [List.map_append]
  congr 1
  · exact List.map_congr_left (fun l h => px_id_cons (by rw [hl]; exact hus l h))
  · rw [List.map_cons, List.map_nil, ← hl, px_id_top]
theorem dz_mt_lam {SN : Int → Int → Prop} {C M : List (Int × qx_T)} {q : Int × qx_T} {Γ : List (Int × qx_T)} {ρ : List Int} {w : Int} {N : rf_N} {f : px_N} {x : qx_T} {j : Nat} (hl : ρ.length = Γ.length) (h5 : ∀ q ∈ Γ, qx_at q.2 ≤ 5) (hw : (px_wt SN C M (.inner 0 q () f .leaf)).1 Γ x) (h : dz_mt SN N f (q :: Γ) (w :: ρ)) : dz_mt SN (rf_n j 0 w N .leaf) (.inner 0 q () f .leaf) Γ ρ := fun _ => by
  obtain ⟨h1, h2⟩ := h trivial
  have hin : ∀ us : List Nat, (∀ l ∈ us, l < Γ.length) → ∀ l ∈ us ++ [Γ.length], l < (q :: Γ).length := fun us hus l hl' => by
    rw [List.length_cons]
    rcases List.mem_append.mp hl' with z | z
    · have := hus l z
      omega
    · have : l = Γ.length := by simpa using z
      omega
  refine ⟨fun g us v hus k => ?_, fun g us l hus k hg => ?_⟩
  · rcases k with ⟨_, _, k⟩ | ⟨k, _⟩
    · have k' : (dz_av N).1 g ((us ++ [Γ.length]).map (px_id (w :: ρ))) v := by rw [px_id_map hl hus]; exact k
      obtain ⟨l, l1, l2⟩ := h1 g _ v (hin us hus) k'
      have l3 : (px_qv SN (.inner 0 q () f .leaf)).1 Γ us l := Or.inl ⟨rfl, l2⟩
      obtain ⟨l4, _⟩ := px_qv_ty.1 hw l3 hus
      exact ⟨l, by rw [l1, px_id_cons (by rw [hl]; exact l4)], l3⟩
    · exact absurd (show (0 : Int) = 2 from k) (by decide)
  · obtain ⟨l4, l5, _⟩ := px_qv_ty.1 hw k hus
    rcases k with ⟨_, k⟩ | ⟨k, _⟩
    · have k' := h2 g _ l (hin us hus) k (by rw [px_tl_cons l4]; exact hg)
      rw [px_id_map hl hus, px_id_cons (by rw [hl]; exact l4)] at k'
      refine Or.inl ⟨rfl, ?_, k'⟩
      rcases hw with ⟨_, _, B, _, hx⟩ | ⟨hw, _⟩
      · have e1 := dz_as_at x (us.map (px_tl Γ))
        rw [← l5] at e1
        have e2 := px_tl_5 h5 l
        have e3 := dz_sm_len (us.map (px_tl Γ))
        have e4 : qx_at x = qx_at q.2 + qx_at B := by rw [hx]; rfl
        have e5 := qx_at_pos q.2
        have e6 := qx_at_pos B
        rw [List.length_map] at e3
        rw [List.length_map]
        omega
      · exact absurd rfl hw
    · exact absurd rfl k
theorem dz_mt_app {SN : Int → Int → Prop} {C M : List (Int × qx_T)} {Γ : List (Int × qx_T)} {ρ : List Int} {W F : rf_N} {f : px_N} {x u : qx_T} {a k h : Int} {i : Nat} (hs : px_so ρ) (hl : ρ.length = Γ.length) (h5 : ∀ q ∈ Γ, qx_at q.2 ≤ 5) (hsem : dz_sem W k h F (qx_at x)) (hw : (px_wt SN C M f).2 Γ u x) (hd : px_hd SN C M Γ a k i u) (hi : k = 2 → h = px_id ρ i) (hm : k = 2 → dz_mr SN F f Γ ρ) : dz_mt SN W (px_app a f .leaf) Γ ρ := fun _ => by
  obtain ⟨s1, s2⟩ := hsem trivial
  refine ⟨fun g us v hus q => ?_, fun g us l hus q hg => ?_⟩
  · obtain ⟨k2, vh, g', _, q2⟩ := s1 g _ v q
    obtain ⟨m1, _⟩ := hm k2 trivial
    obtain ⟨ls, e, q3⟩ := m1 g' _ q2
    obtain ⟨c1, _⟩ := px_qv_ty.2 hw q3
    have e2 : us = ls := px_map_inj hs (fun l h => by rw [hl]; exact hus l h) (fun l h => by rw [hl]; exact c1 l h) e
    subst e2
    exact ⟨i, by rw [vh, hi k2], Or.inr ⟨Nat.one_ne_zero, ⟨u, px_hd_2 hd k2⟩, q3⟩⟩
  · rcases q with ⟨q, _⟩ | ⟨_, ⟨y, q1⟩, q2⟩
    · exact absurd q Nat.one_ne_zero
    · obtain ⟨k2, e1, e2, e3⟩ := px_hd_v hd q1
      subst e1
      obtain ⟨_, m2⟩ := hm k2 trivial
      obtain ⟨c1, c2, _⟩ := px_qv_ty.2 hw q2
      have t1 := px_vr_tl e3
      have a1 := dz_as_at x (us.map (px_tl Γ))
      rw [← c2, ← t1] at a1
      have a2 := px_tl_5 h5 i
      have a3 := dz_sm_len (us.map (px_tl Γ))
      rw [List.length_map] at a3
      have a4 := qx_at_pos x
      obtain ⟨g', rfl⟩ : ∃ g', g = g' + 1 := ⟨g - 1, by omega⟩
      rw [← hi k2]
      refine s2 g' _ k2 (by omega) (by rw [List.length_map]; omega) (m2 g' us q2 (fun l hl' => ?_))
      have := dz_sm_m (List.mem_map_of_mem (f := px_tl Γ) hl')
      omega
theorem dz_mr_nil {SN : Int → Int → Prop} {Γ : List (Int × qx_T)} {ρ : List Int} : dz_mr SN .leaf .leaf Γ ρ := fun _ => ⟨fun _ vs h => ⟨[], h, rfl⟩, fun _ ls h _ => by
  have e : ls = [] := h
  rw [e]
  rfl⟩
theorem dz_mr_snoc {SN : Int → Int → Prop} {Γ : List (Int × qx_T)} {ρ : List Int} {F W : rf_N} {f f' : px_N} {g0 : Nat} {q : Int × qx_T} (hn : rf_nx W) (hW : W ≠ .leaf) (h : dz_mr SN F f Γ ρ) (hp : dz_mt SN W (.inner g0 q () f' .leaf) Γ ρ) : dz_mr SN (rf_snoc F W) (px_snoc f (.inner g0 q () f' .leaf)) Γ ρ := fun _ => by
  obtain ⟨h1, h2⟩ := h trivial
  obtain ⟨p1, p2⟩ := hp trivial
  refine ⟨fun g vs k => ?_, fun g ls k hg => ?_⟩
  · obtain ⟨us, ws, e, k1, k2⟩ := dz_av_app.mp k
    obtain ⟨ls, l1, l2⟩ := h1 g us k1
    cases W with
    | leaf => exact absurd rfl hW
    | inner wj wk wu wf wx =>
      obtain ⟨v, vs', e2, k3, k4⟩ := dz_av_c.mp k2
      have e3 : wx = .leaf := hn
      subst e3
      have e4 : vs' = [] := k4
      subst e4
      obtain ⟨l, l3, l4⟩ := p1 g [] v (fun _ z => absurd z List.not_mem_nil) k3
      exact ⟨ls ++ [l], by rw [e, e2, l1, l3, List.map_append]; rfl, px_qv_snoc.mpr ⟨ls, [l], rfl, l2, px_qv_c.mpr ⟨l, [], rfl, l4, rfl⟩⟩⟩
  · obtain ⟨a, b, e, k1, k2⟩ := px_qv_snoc.mp k
    obtain ⟨v, r, e2, k3, k4⟩ := px_qv_c.mp k2
    have e3 : r = [] := k4
    subst e3
    subst e2
    subst e
    rw [List.map_append]
    refine dz_av_app.mpr ⟨_, _, rfl, h2 g a k1 (fun l hl => hg l (List.mem_append_left _ hl)), dz_av_one hn (p2 g [] v (fun _ z => absurd z List.not_mem_nil) k3 (hg v (List.mem_append_right _ List.mem_cons_self)))⟩
/-- asVariable's answer for an ARG -/
theorem dz_mt_pv {SN : Int → Int → Prop} {C M : List (Int × qx_T)} {Γ : List (Int × qx_T)} {ρ : List Int} {W : rf_N} {p : px_N} {A : qx_T} {z : Int} (h5 : ∀ q ∈ Γ, qx_at q.2 ≤ 5) (hw : (px_wt SN C M p).1 Γ A) (hm : dz_mt SN W p Γ ρ) (hz : (z = -1 ∧ ∀ v, ¬ (dz_av W).1 5 [] v) ∨ (0 ≤ z ∧ (dz_av W).1 5 [] z)) : (z = -1 ∧ ∀ l, ¬ (px_pv SN p).1 Γ [] l) ∨ (0 ≤ z ∧ ∃ l, z = px_id ρ l ∧ l < Γ.length ∧ (px_pv SN p).1 Γ [] l) := by
  obtain ⟨m1, m2⟩ := hm trivial
  rcases hz with ⟨z1, z2⟩ | ⟨z1, z2⟩
  · exact Or.inl ⟨z1, fun l hl => z2 _ (m2 5 [] l (fun _ z => absurd z List.not_mem_nil) (px_pv_qv.1 hl) (px_tl_5 h5 l))⟩
  · obtain ⟨l, l1, l2⟩ := m1 5 [] z (fun _ z => absurd z List.not_mem_nil) z2
    obtain ⟨l3, _, l4⟩ := px_qv_ty.1 hw l2 (fun _ z => absurd z List.not_mem_nil)
    exact Or.inr ⟨z1, l, l1, l3, l4⟩
/-- an unknown's ARGs thus far -/
def dz_pt (SN : Int → Int → Prop) (F : rf_N) (r : px_N) (Γ : List (Int × qx_T)) (ρ : List Int) : Prop := True → ∃ ls, dz_hs F = ls.map (px_id ρ) ∧ (px_pv SN r).2 Γ ls ∧ ls.Nodup ∧ ∀ l ∈ ls, l < Γ.length
theorem dz_pt_nil {SN : Int → Int → Prop} {Γ : List (Int × qx_T)} {ρ : List Int} : dz_pt SN .leaf .leaf Γ ρ := fun _ => ⟨[], rfl, rfl, List.nodup_nil, fun _ z => absurd z List.not_mem_nil⟩
theorem dz_pt_ok {SN : Int → Int → Prop} {F : rf_N} {r : px_N} {Γ : List (Int × qx_T)} {ρ : List Int} (h : dz_pt SN F r Γ ρ) : px_pt' SN Γ r := by
  obtain ⟨ls, _, h2, h3, _⟩ := h trivial
  exact ⟨ls, h2, h3⟩
theorem dz_pt_snoc {SN : Int → Int → Prop} {F : rf_N} {r f' : px_N} {Γ : List (Int × qx_T)} {ρ : List Int} {g0 : Nat} {q : Int × qx_T} {z : Int} {l j : Nat} (hs : px_so ρ) (hl : ρ.length = Γ.length) (h : dz_pt SN F r Γ ρ) (hz : z = px_id ρ l) (hll : l < Γ.length) (hp : (px_pv SN (.inner g0 q () f' .leaf)).1 Γ [] l) : (z ∈ dz_hs F → ¬ px_pt' SN Γ (px_snoc r (.inner g0 q () f' .leaf))) ∧ (z ∉ dz_hs F → dz_pt SN (rf_snoc F (rf_n j 2 z .leaf .leaf)) (px_snoc r (.inner g0 q () f' .leaf)) Γ ρ) := by
  obtain ⟨ls, h1, h2, h3, h4⟩ := h trivial
  have hmem : z ∈ dz_hs F ↔ l ∈ ls := by
    rw [h1, hz]
    exact px_map_mem hs (fun l h => by rw [hl]; exact h4 l h) (by rw [hl]; exact hll)
  refine ⟨fun hin => ?_, fun hni => fun _ => ⟨ls ++ [l], ?_, px_pv_snoc.mpr ⟨ls, [l], rfl, h2, px_pv_c.mpr ⟨l, [], rfl, hp, rfl⟩⟩, ?_, fun x hx => ?_⟩⟩
  · rintro ⟨vs, v1, v2⟩
    obtain ⟨a, b, e, k1, k2⟩ := px_pv_snoc.mp v1
    obtain ⟨v, r', e2, k3, k4⟩ := px_pv_c.mp k2
    have e3 := px_pv_fun.2 h2 k1
    have e4 := px_pv_fun.1 hp k3
    rw [e, e2, ← e3, ← e4] at v2
    have v3 := List.nodup_append.mp v2
    exact v3.2.2 l (hmem.mp hin) l List.mem_cons_self rfl
  · rw [dz_hs_snoc, h1, List.map_append, hz]
    rfl
  · refine List.nodup_append.mpr ⟨h3, List.nodup_cons.mpr ⟨List.not_mem_nil, List.nodup_nil⟩, fun x hx y hy e => ?_⟩
    have : y = l := by simpa using hy
    rw [e, this] at hx
    exact hni (hmem.mpr hx)
  · rcases List.mem_append.mp hx with q | q
    · exact h4 x q
    · have : x = l := by simpa using q
      rw [this]
      exact hll
theorem px_pt_no {SN : Int → Int → Prop} {r f' : px_N} {Γ : List (Int × qx_T)} {g0 : Nat} {q : Int × qx_T} (hp : ∀ l, ¬ (px_pv SN (.inner g0 q () f' .leaf)).1 Γ [] l) : ¬ px_pt' SN Γ (px_snoc r (.inner g0 q () f' .leaf)) := by
  rintro ⟨vs, v1, v2⟩
  obtain ⟨a, b, e, k1, k2⟩ := px_pv_snoc.mp v1
  obtain ⟨v, r', e2, k3, k4⟩ := px_pv_c.mp k2
  exact hp v k3
theorem px_pt_up {SN : Int → Int → Prop} {r p : px_N} {Γ : List (Int × qx_T)} (h : ¬ px_pt' SN Γ r) : ¬ px_pt' SN Γ (px_snoc r p) := by
  rintro ⟨vs, v1, v2⟩
  obtain ⟨a, b, e, k1, k2⟩ := px_pv_snoc.mp v1
  rw [e] at v2
  exact h ⟨a, k1, (List.nodup_append.mp v2).1⟩
theorem px_AR_sn {K : Nat → Int} {T : Int → px_N → Int → Prop} {a : Int} {r r' : px_N} {c : Int} (h : px_AR K T a r r' c) : ∃ q, r' = px_snoc r q := by
  obtain ⟨g, h⟩ := h
  induction g generalizing a r with
  | zero => exact h.elim
  | succ g ih =>
    rcases h with ⟨_, t, e, _, _, h⟩ | ⟨_, h⟩ | ⟨_, _, h, _⟩
    · obtain ⟨q, hq⟩ := ih h
      exact ⟨_, by rw [hq, px_snoc_assoc]⟩
    · obtain ⟨q, hq⟩ := ih h
      exact ⟨_, by rw [hq, px_snoc_assoc]⟩
    · exact ⟨.leaf, by rw [h, px_snoc_leaf]⟩
