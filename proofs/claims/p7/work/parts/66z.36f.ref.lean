/-! ===== patterns: variables by their numbers and by what is bound outside of them ===== -/
def px_id (ρ : List Int) (l : Nat) : Int := (ρ[ρ.length - 1 - l]?).getD (-1)
def px_so : List Int → Prop
  | [] => True
  | w :: ρ => (∀ x ∈ ρ, x < w) ∧ px_so ρ
theorem px_id_cons {w : Int} {ρ : List Int} {l : Nat} (h : l < ρ.length) : px_id (w :: ρ) l = px_id ρ l := by
  unfold px_id
  rw [List.length_cons, show ρ.length + 1 - 1 - l = (ρ.length - 1 - l) + 1 by omega, List.getElem?_cons_succ]
theorem px_id_top {w : Int} {ρ : List Int} : px_id (w :: ρ) ρ.length = w := by
  unfold px_id
  rw [List.length_cons, show ρ.length + 1 - 1 - ρ.length = 0 by omega]
  rfl
theorem px_id_mem {ρ : List Int} {l : Nat} (h : l < ρ.length) : px_id ρ l ∈ ρ := by
  unfold px_id
  rw [List.getElem?_eq_getElem (show ρ.length - 1 - l < ρ.length by omega)]
  exact List.getElem_mem _
theorem px_id_inj : ∀ {ρ : List Int} {l l' : Nat}, px_so ρ → l < ρ.length → l' < ρ.length → px_id ρ l = px_id ρ l' → l = l'
  | [], l, _, _, h, _, _ => absurd h (Nat.not_lt_zero _)
  | w :: ρ, l, l', hs, h, h', e => by
    rw [List.length_cons] at h h'
    by_cases a : l < ρ.length <;> by_cases b : l' < ρ.length
    · rw [px_id_cons a, px_id_cons b] at e
      exact px_id_inj hs.2 a b e
    · have eb : l' = ρ.length := by omega
      subst eb
      rw [px_id_cons a, px_id_top] at e
      have := hs.1 _ (px_id_mem a)
      omega
    · have ea : l = ρ.length := by omega
      subst ea
      rw [px_id_cons b, px_id_top] at e
      have := hs.1 _ (px_id_mem b)
      omega
    · omega
theorem px_map_inj {ρ : List Int} (hs : px_so ρ) : ∀ {a b : List Nat}, (∀ l ∈ a, l < ρ.length) → (∀ l ∈ b, l < ρ.length) → a.map (px_id ρ) = b.map (px_id ρ) → a = b
  | [], [], _, _, _ => rfl
  | [], _ :: _, _, _, h => by cases h
  | _ :: _, [], _, _, h => by cases h
  | x :: a, y :: b, ha, hb, h => by
    rw [List.map_cons, List.map_cons] at h
    injection h with h1 h2
    rw [px_id_inj hs (ha x List.mem_cons_self) (hb y List.mem_cons_self) h1, px_map_inj hs (fun l q => ha l (List.mem_cons_of_mem _ q)) (fun l q => hb l (List.mem_cons_of_mem _ q)) h2]
theorem px_map_mem {ρ : List Int} (hs : px_so ρ) {a : List Nat} {l : Nat} (ha : ∀ l ∈ a, l < ρ.length) (hl : l < ρ.length) : px_id ρ l ∈ a.map (px_id ρ) ↔ l ∈ a := by
  constructor
  · intro h
    obtain ⟨x, h1, h2⟩ := List.mem_map.mp h
    rw [← px_id_inj hs (ha x h1) hl h2]
    exact h1
  · exact fun h => List.mem_map.mpr ⟨l, h, rfl⟩
theorem px_map_nd {ρ : List Int} (hs : px_so ρ) : ∀ {a : List Nat}, (∀ l ∈ a, l < ρ.length) → ((a.map (px_id ρ)).Nodup ↔ a.Nodup)
  | [], _ => ⟨fun _ => List.nodup_nil, fun _ => List.nodup_nil⟩
  | x :: a, ha => by
    have ih := px_map_nd hs (a := a) (fun l q => ha l (List.mem_cons_of_mem _ q))
    rw [List.map_cons, List.nodup_cons, List.nodup_cons, ih, px_map_mem hs (fun l q => ha l (List.mem_cons_of_mem _ q)) (ha x List.mem_cons_self)]
theorem px_pv_no {SN : Int → Int → Prop} : ∀ {n : px_N} {Γ : List (Int × qx_T)} {us : List Nat} {v : Nat}, (px_pv SN n).1 Γ us v → v ∉ us
  | .leaf, _, _, _, h => h.elim
  | .inner g q _ f x, Γ, us, v, h => by
    rcases h with ⟨_, h⟩ | ⟨_, _, h, _⟩
    · exact fun z => px_pv_no h (List.mem_append_left _ z)
    · exact h
theorem px_pv_c {SN : Int → Int → Prop} {g : Nat} {q : Int × qx_T} {u0 : Unit} {f x : px_N} {Γ : List (Int × qx_T)} {us : List Nat} : (px_pv SN (.inner g q u0 f x)).2 Γ us ↔ ∃ u us', us = u :: us' ∧ (px_pv SN (.inner g q u0 f x)).1 Γ [] u ∧ (px_pv SN x).2 Γ us' := Iff.rfl
theorem px_pv_lt {SN : Int → Int → Prop} : ∀ {n : px_N}, (∀ {Γ : List (Int × qx_T)} {us : List Nat} {v : Nat}, (px_pv SN n).1 Γ us v → v < Γ.length) ∧ (∀ {Γ : List (Int × qx_T)} {vs : List Nat}, (px_pv SN n).2 Γ vs → ∀ v ∈ vs, v < Γ.length)
  | .leaf => ⟨fun h => h.elim, fun h v hv => by
    rw [show _ = [] from h] at hv
    exact absurd hv List.not_mem_nil⟩
  | .inner g q u0 f x => by
    have h1 : ∀ {Γ : List (Int × qx_T)} {us : List Nat} {v : Nat}, (px_pv SN (.inner g q u0 f x)).1 Γ us v → v < Γ.length := by
      intro Γ us v h
      rcases h with ⟨_, h⟩ | ⟨_, ⟨y, h⟩, _⟩
      · have a := (px_pv_lt (n := f)).1 h
        have b := px_pv_no h
        rw [List.length_cons] at a
        have c : v ≠ Γ.length := fun e => b (List.mem_append_right _ (by rw [e]; exact List.mem_cons_self))
        omega
      · exact px_vr_lt h
    refine ⟨h1, ?_⟩
    intro Γ vs h v hv
    obtain ⟨w, r, e, a, b⟩ := px_pv_c.mp h
    rw [e] at hv
    rcases List.mem_cons.mp hv with rfl | hv
    · exact h1 a
    · exact (px_pv_lt (n := x)).2 b v hv
/-- the tree of read nodes and what they mean is this tree under these names -/
def px_lk (SN : Int → Int → Prop) (C M : List (Int × qx_T)) : rf_N → px_N → (List (Int × qx_T) → List Int → Prop) × (List (Int × qx_T) → List Int → Prop)
  | .leaf, .leaf => (fun _ _ => False, fun _ _ => True)
  | .inner _ k _ f x, .inner g q _ f' x' => (fun Γ ρ => ((k.1 = 0 ∧ g = 0 ∧ (∀ w ∈ ρ, w < k.2) ∧ (px_lk SN C M f f').1 (q :: Γ) (k.2 :: ρ)) ∨ (k.1 ≠ 0 ∧ g ≠ 0 ∧ ∃ i u, px_hd SN C M Γ q.1 k.1 i u ∧ (k.1 = 2 → k.2 = px_id ρ i) ∧ (px_lk SN C M f f').2 Γ ρ)), fun Γ ρ => ((k.1 = 0 ∧ g = 0 ∧ (∀ w ∈ ρ, w < k.2) ∧ (px_lk SN C M f f').1 (q :: Γ) (k.2 :: ρ)) ∨ (k.1 ≠ 0 ∧ g ≠ 0 ∧ ∃ i u, px_hd SN C M Γ q.1 k.1 i u ∧ (k.1 = 2 → k.2 = px_id ρ i) ∧ (px_lk SN C M f f').2 Γ ρ)) ∧ (px_lk SN C M x x').2 Γ ρ)
  | .leaf, .inner _ _ _ _ _ => (fun _ _ => False, fun _ _ => False)
  | .inner _ _ _ _ _, .leaf => (fun _ _ => False, fun _ _ => False)
theorem px_lk_pv {SN : Int → Int → Prop} {C M : List (Int × qx_T)} : ∀ {N : rf_N} {n : px_N} {Γ : List (Int × qx_T)} {ρ : List Int}, px_so ρ → ρ.length = Γ.length → ((px_lk SN C M N n).1 Γ ρ → ∀ us v, (∀ l ∈ us, l < Γ.length) → ((rf_lf2 N).1 (us.map (px_id ρ)) v ↔ ∃ l, v = px_id ρ l ∧ (px_pv SN n).1 Γ us l)) ∧ ((px_lk SN C M N n).2 Γ ρ → ∀ vs, ((rf_lf2 N).2 vs ↔ ∃ ls, vs = ls.map (px_id ρ) ∧ (px_pv SN n).2 Γ ls))
  | .leaf, .leaf, Γ, ρ, _, _ => ⟨fun h => h.elim, fun _ vs => ⟨fun h => ⟨[], h, rfl⟩, fun ⟨ls, h1, h2⟩ => by
    have e : ls = [] := h2
    rw [e] at h1
    exact h1⟩⟩
  | .leaf, .inner _ _ _ _ _, _, _, _, _ => ⟨fun h => h.elim, fun h => h.elim⟩
  | .inner _ _ _ _ _, .leaf, _, _, _, _ => ⟨fun h => h.elim, fun h => h.elim⟩
  | .inner j k u f x, .inner g q u' f' x', Γ, ρ, hs, hl => by
    have h1 : (px_lk SN C M (.inner j k u f x) (.inner g q u' f' x')).1 Γ ρ → ∀ us v, (∀ l ∈ us, l < Γ.length) → ((rf_lf2 (.inner j k u f x)).1 (us.map (px_id ρ)) v ↔ ∃ l, v = px_id ρ l ∧ (px_pv SN (.inner g q u' f' x')).1 Γ us l) := by
      intro h us v hus
      rcases h with ⟨k0, g0, hw, h⟩ | ⟨k0, g0, i, y, hh, h2, h⟩
      · have ih := (px_lk_pv (N := f) (n := f') (Γ := q :: Γ) (ρ := k.2 :: ρ) ⟨hw, hs⟩ (by rw [List.length_cons, List.length_cons, hl])).1 h (us ++ [Γ.length]) v (fun l hl' => by
          rw [List.length_cons]
          rcases List.mem_append.mp hl' with z | z
          · have := hus l z
            omega
          · have : l = Γ.length := by simpa using z
            omega)
        have e : (us ++ [Γ.length]).map (px_id (k.2 :: ρ)) = us.map (px_id ρ) ++ [k.2] := by
          rw [List.map_append]
          congr 1
          · apply List.map_congr_left
            intro l hl'
            exact px_id_cons (by rw [hl]; exact hus l hl')
          · rw [List.map_cons, List.map_nil, ← hl, px_id_top]
        rw [e] at ih
        constructor
        · rintro (⟨_, z⟩ | ⟨z, _⟩)
          · obtain ⟨l, l1, l2⟩ := ih.mp z
            have l3 := (px_pv_lt (n := f')).1 l2
            have l4 := px_pv_no l2
            rw [List.length_cons] at l3
            have l5 : l ≠ Γ.length := fun e => l4 (List.mem_append_right _ (by rw [e]; exact List.mem_cons_self))
            exact ⟨l, by rw [l1, px_id_cons (by omega)], Or.inl ⟨g0, l2⟩⟩
          · omega
        · rintro ⟨l, l1, ⟨_, l2⟩ | ⟨l2, _⟩⟩
          · have l3 := (px_pv_lt (n := f')).1 l2
            have l4 := px_pv_no l2
            rw [List.length_cons] at l3
            have l5 : l ≠ Γ.length := fun e => l4 (List.mem_append_right _ (by rw [e]; exact List.mem_cons_self))
            exact Or.inl ⟨k0, ih.mpr ⟨l, by rw [l1, px_id_cons (by omega)], l2⟩⟩
          · exact absurd g0 l2
      · have ih := (px_lk_pv (N := f) (n := f') (Γ := Γ) (ρ := ρ) hs hl).2 h
        have hus' : ∀ l ∈ us, l < ρ.length := fun l z => by
          rw [hl]
          exact hus l z
        constructor
        · rintro (⟨z, _⟩ | ⟨z, e, hn, z2⟩)
          · exact absurd z k0
          · have hv : px_vr SN Γ q.1 i y := by
              rcases hh with ⟨_, hh⟩ | ⟨hh, _⟩ | ⟨hh, _⟩
              · exact hh
              · omega
              · omega
            have il := px_vr_lt hv
            have e2 := h2 z
            obtain ⟨ls, m1, m2⟩ := (ih _).mp z2
            have m3 := (px_pv_lt (n := f')).2 m2
            have m4 := px_map_inj hs hus' (fun l z => by rw [hl]; exact m3 l z) m1
            refine ⟨i, by rw [← e]; exact e2, Or.inr ⟨g0, ⟨y, hv⟩, fun z3 => hn ?_, by rw [m4]; exact m2⟩⟩
            rw [← e, e2]
            exact (px_map_mem hs hus' (by omega)).mpr z3
        · rintro ⟨l, l1, ⟨l2, _⟩ | ⟨_, ⟨y', l2⟩, l3, l4⟩⟩
          · exact absurd l2 g0
          · have ll := px_vr_lt l2
            rcases hh with ⟨z, hh⟩ | ⟨_, hh, _⟩ | ⟨_, hh, _⟩
            · obtain ⟨rfl, _⟩ := px_vr_fun hh l2
              have e2 := h2 z
              refine Or.inr ⟨z, by rw [l1]; exact e2, fun z3 => l3 ?_, (ih _).mpr ⟨us, rfl, l4⟩⟩
              rw [l1] at z3
              exact (px_map_mem hs hus' (by omega)).mp z3
            · exact (px_vr_nv l2 hh).elim
            · exact (px_vr_nv l2 hh).elim
    refine ⟨h1, fun h vs => ?_⟩
    have a := h1 h.1 [] 
    have b := (px_lk_pv (N := x) (n := x') (Γ := Γ) (ρ := ρ) hs hl).2 h.2
    constructor
    · intro z
      obtain ⟨w, r, e, z1, z2⟩ := rf_lf2_c.mp z
      obtain ⟨l, l1, l2⟩ := (a w (fun l z => absurd z List.not_mem_nil)).mp z1
      obtain ⟨ls, l3, l4⟩ := (b r).mp z2
      exact ⟨l :: ls, by rw [e, l1, l3]; rfl, px_pv_c.mpr ⟨l, ls, rfl, l2, l4⟩⟩
    · rintro ⟨ls, e, z⟩
      obtain ⟨l, ls', e2, z1, z2⟩ := px_pv_c.mp z
      subst e2
      rw [e]
      exact rf_lf2_c.mpr ⟨px_id ρ l, ls'.map (px_id ρ), rfl, (a _ (fun l z => absurd z List.not_mem_nil)).mpr ⟨l, rfl, z1⟩, (b _).mpr ⟨ls', rfl, z2⟩⟩
/-- the unknown's ARGs are distinct variables, in both ways of saying it -/
theorem px_lk_pt {SN : Int → Int → Prop} {C M Γ : List (Int × qx_T)} {ρ : List Int} {N : rf_N} {n : px_N} (hs : px_so ρ) (hl : ρ.length = Γ.length) (h : (px_lk SN C M N n).2 Γ ρ) : (∃ vs, (rf_lf2 N).2 vs ∧ vs.Nodup) ↔ px_pt' SN Γ n := by
  have a := (px_lk_pv hs hl).2 h
  constructor
  · rintro ⟨vs, h1, h2⟩
    obtain ⟨ls, h3, h4⟩ := (a vs).mp h1
    rw [h3] at h2
    exact ⟨ls, h4, (px_map_nd hs (fun l z => by rw [hl]; exact (px_pv_lt (n := n)).2 h4 l z)).mp h2⟩
  · rintro ⟨ls, h1, h2⟩
    exact ⟨ls.map (px_id ρ), (a _).mpr ⟨ls, rfl, h1⟩, (px_map_nd hs (fun l z => by rw [hl]; exact (px_pv_lt (n := n)).2 h1 l z)).mpr h2⟩
theorem px_lk_snoc {SN : Int → Int → Prop} {C M Γ : List (Int × qx_T)} {ρ : List Int} {P : rf_N} {P' : px_N} (hp : (px_lk SN C M P P').2 Γ ρ) : ∀ {N : rf_N} {n : px_N}, (px_lk SN C M N n).2 Γ ρ → (px_lk SN C M (rf_snoc N P) (px_snoc n P')).2 Γ ρ
  | .leaf, .leaf, _ => hp
  | .leaf, .inner _ _ _ _ _, h => h.elim
  | .inner _ _ _ _ _, .leaf, h => h.elim
  | .inner _ _ _ _ _, .inner _ _ _ _ _, h => ⟨h.1, px_lk_snoc hp h.2⟩
theorem px_wt_snoc {SN : Int → Int → Prop} {C M Γ : List (Int × qx_T)} {p : px_N} {y : qx_T} : ∀ {n : px_N} {u : qx_T}, (px_wt SN C M (px_snoc n p)).2 Γ u y ↔ ∃ w, (px_wt SN C M n).2 Γ u w ∧ (px_wt SN C M p).2 Γ w y
  | .leaf, u => ⟨fun h => ⟨u, rfl, h⟩, fun ⟨w, h1, h2⟩ => by
    have e : u = w := h1
    rw [e]
    exact h2⟩
  | .inner g q u0 f x, u => by
    constructor
    · rintro ⟨A, B, h1, h2, h3⟩
      obtain ⟨w, h4, h5⟩ := px_wt_snoc.mp h3
      exact ⟨w, ⟨A, B, h1, h2, h4⟩, h5⟩
    · rintro ⟨w, ⟨A, B, h1, h2, h4⟩, h5⟩
      exact ⟨A, B, h1, h2, px_wt_snoc.mpr ⟨w, h4, h5⟩⟩
theorem px_is_split {s : sx_S} {b : rf_N} : ∀ {a : rf_N} {n : px_N}, px_is s (rf_snoc a b) n → ∃ a' b', n = px_snoc a' b' ∧ px_is s a a' ∧ px_is s b b'
  | .leaf, n, h => ⟨.leaf, n, rfl, trivial, h⟩
  | .inner _ _ _ _ _, .leaf, h => h.elim
  | .inner j k u f x, .inner g q u' f' x', h => by
    obtain ⟨a', b', h1, h2, h3⟩ := px_is_split h.2.2
    exact ⟨.inner g q () f' a', b', by rw [h1]; rfl, ⟨h.1, h.2.1, h2⟩, h3⟩
