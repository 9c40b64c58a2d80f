/-! ===== patterns: variables by their numbers and by what is bound outside of them ===== -/
def px_id (ρ : List Int) (l : Nat) : Int := (ρ[ρ.length - 1 - l]?).getD (-1)
def px_so : List Int → Prop
  | [] => True
  | w :: ρ => (∀ x ∈ ρ, x < w) ∧ px_so ρ
theorem px_id_cons {w : Int} {ρ : List Int} {l : Nat} (h : l < ρ.length) : px_id (w :: ρ) l = px_id ρ l := by
  unfold px_id
  rw [List.length_cons, show ρ.length + 1 - 1 - l = (ρ.length - 1 - l) + 1 by omega, List.getElem?_cons_succ]
theorem px_id_top {w : Int} {ρ : List Int} : px_id (w :: ρ) ρ.length = w := by
  unfold px_id
  rw [List.length_cons, show ρ.length + 1 - 1 - ρ.length = 0 by omega]
  rfl
theorem px_id_mem {ρ : List Int} {l : Nat} (h : l < ρ.length) : px_id ρ l ∈ ρ := by
  unfold px_id
  rw [List.getElem?_eq_getElem (show ρ.length - 1 - l < ρ.length by omega)]
  exact List.getElem_mem _
theorem px_id_inj : ∀ {ρ : List Int} {l l' : Nat}, px_so ρ → l < ρ.length → l' < ρ.length → px_id ρ l = px_id ρ l' → l = l'
  | [], l, _, _, h, _, _ => absurd h (Nat.not_lt_zero _)
  | w :: ρ, l, l', hs, h, h', e => by
    rw [List.length_cons] at h h'
    by_cases a : l < ρ.length <;> by_cases b : l' < ρ.length
    · rw [px_id_cons a, px_id_cons b] at e
      exact px_id_inj hs.2 a b e
    · have eb : l' = ρ.length := by omega
      subst eb
      rw [px_id_cons a, px_id_top] at e
      have := hs.1 _ (px_id_mem a)
      omega
    · have ea : l = ρ.length := by omega
      subst ea
      rw [px_id_cons b, px_id_top] at e
      have := hs.1 _ (px_id_mem b)
      omega
    · omega
theorem px_map_inj {ρ : List Int} (hs : px_so ρ) : ∀ {a b : List Nat}, (∀ l ∈ a, l < ρ.length) → (∀ l ∈ b, l < ρ.length) → a.map (px_id ρ) = b.map (px_id ρ) → a = b
  | [], [], _, _, _ => rfl
  | [], _ :: _, _, _, h => by cases h
  | _ :: _, [], _, _, h => by cases h
  | x :: a, y :: b, ha, hb, h => by
    rw [List.map_cons, List.map_cons] at h
    injection h with h1 h2
    rw [px_id_inj hs (ha x List.mem_cons_self) (hb y List.mem_cons_self) h1, px_map_inj hs (fun l q => ha l (List.mem_cons_of_mem _ q)) (fun l q => hb l (List.mem_cons_of_mem _ q)) h2]
theorem px_map_mem {ρ : List Int} (hs : px_so ρ) {a : List Nat} {l : Nat} (ha : ∀ l ∈ a, l < ρ.length) (hl : l < ρ.length) : px_id ρ l ∈ a.map (px_id ρ) ↔ l ∈ a := by
  constructor
  · intro h
    obtain ⟨x, h1, h2⟩ := List.mem_map.mp h
    rw [← px_id_inj hs (ha x h1) hl h2]
    exact h1
  · exact fun h => List.mem_map.mpr ⟨l, h, rfl⟩
theorem px_map_nd {ρ : List Int} (hs : px_so ρ) : ∀ {a : List Nat}, (∀ l ∈ a, l < ρ.length) → ((a.map (px_id ρ)).Nodup ↔ a.Nodup)
  | [], _ => ⟨fun _ => List.nodup_nil, fun _ => List.nodup_nil⟩
  | x :: a, ha => by
    have ih := px_map_nd hs (a := a) (fun l q => ha l (List.mem_cons_of_mem _ q))
    rw [List.map_cons, List.nodup_cons, List.nodup_cons, ih, px_map_mem hs (fun l q => ha l (List.mem_cons_of_mem _ q)) (ha x List.mem_cons_self)]
theorem px_pv_no {SN : Int → Int → Prop} : ∀ {n : px_N} {Γ : List (Int × qx_T)} {us : List Nat} {v : Nat}, (px_pv SN n).1 Γ us v → v ∉ us
  | .leaf, _, _, _, h => h.elim
  | .inner g q _ f x, Γ, us, v, h => by
    rcases h with ⟨_, h⟩ | ⟨_, _, h, _⟩
    · exact fun z => px_pv_no h (List.mem_append_left _ z)
    · exact h
theorem px_pv_c {SN : Int → Int → Prop} {g : Nat} {q : Int × qx_T} {u0 : Unit} {f x : px_N} {Γ : List (Int × qx_T)} {us : List Nat} : (px_pv SN (.inner g q u0 f x)).2 Γ us ↔ ∃ u us', us = u :: us' ∧ (px_pv SN (.inner g q u0 f x)).1 Γ [] u ∧ (px_pv SN x).2 Γ us' := Iff.rfl
theorem px_pv_lt {SN : Int → Int → Prop} : ∀ {n : px_N}, (∀ {Γ : List (Int × qx_T)} {us : List Nat} {v : Nat}, (px_pv SN n).1 Γ us v → v < Γ.length) ∧ (∀ {Γ : List (Int × qx_T)} {vs : List Nat}, (px_pv SN n).2 Γ vs → ∀ v ∈ vs, v < Γ.length)
  | .leaf => ⟨fun h => h.elim, fun h v hv => by
    rw [show _ = [] from h] at hv
    exact absurd hv List.not_mem_nil⟩
  | .inner g q u0 f x => by
    have h1 : ∀ {Γ : List (Int × qx_T)} {us : List Nat} {v : Nat}, (px_pv SN (.inner g q u0 f x)).1 Γ us v → v < Γ.length := by
      intro Γ us v h
      rcases h with ⟨_, h⟩ | ⟨_, ⟨y, h⟩, _⟩
      · have a := (px_pv_lt (n := f)).1 h
        have b := px_pv_no h
        rw [List.length_cons] at a
        have c : v ≠ Γ.length := fun e => b (List.mem_append_right _ (by rw [e]; exact List.mem_cons_self))
        omega
      · exact px_vr_lt h
    refine ⟨h1, ?_⟩
    intro Γ vs h v hv
    obtain ⟨w, r, e, a, b⟩ := px_pv_c.mp h
    rw [e] at hv
    rcases List.mem_cons.mp hv with rfl | hv
    · exact h1 a
    · exact (px_pv_lt (n := x)).2 b v hv
theorem px_wt_snoc {SN : Int → Int → Prop} {C M Γ : List (Int × qx_T)} {p : px_N} {y : qx_T} : ∀ {n : px_N} {u : qx_T}, (px_wt SN C M (px_snoc n p)).2 Γ u y ↔ ∃ w, (px_wt SN C M n).2 Γ u w ∧ (px_wt SN C M p).2 Γ w y
  | .leaf, u => ⟨fun h => ⟨u, rfl, h⟩, fun ⟨w, h1, h2⟩ => by
    have e : u = w := h1
    rw [e]
    exact h2⟩
  | .inner g q u0 f x, u => by
    constructor
    · rintro ⟨A, B, h1, h2, h3⟩
      obtain ⟨w, h4, h5⟩ := px_wt_snoc.mp h3
      exact ⟨w, ⟨A, B, h1, h2, h4⟩, h5⟩
    · rintro ⟨w, ⟨A, B, h1, h2, h4⟩, h5⟩
      exact ⟨A, B, h1, h2, px_wt_snoc.mpr ⟨w, h4, h5⟩⟩
