/-! ===== the reference: nodes as typed trees ===== -/
def rf_no (s : sx_S) (n : rf_N) (i : Int) : Prop := rf_nd (s.2.1 100) (s.2.1 101) (s.2.1 102) (s.2.1 103) (s.1 66 50) n i
/-- the variables from place i up to place e take the type x to the type y -/
def rf_rp (s : sx_S) (y : rf_T) : rf_T → Int → Int → Prop
  | .leaf, i, e => y = .leaf ∧ i = e
  | .inner n u v A B, i, e => (y = .inner n u v A B ∧ i = e) ∨ (rf_vt s (s.2.1 105 i.toNat) A ∧ rf_rp s y B (i + 1) e)
/-- the unknown of a node before variables, what is left being y -/
def rf_mp (s : sx_S) (j : Nat) (r : Int) (y : rf_T) (e : Int) : Prop := ∃ x : rf_T, ((0 ≤ r ∧ r < s.1 66 45) ∧ rf_at x ≤ 5 ∧ 0 ≤ s.2.1 104 j ∧ e ≤ s.1 66 56) ∧ rf_is s x (s.2.1 123 r.toNat) ∧ rf_rp s y x (s.2.1 104 j) e
def rf_H (s : sx_S) (j : Nat) (k r : Int) (u : rf_T) : Prop := (k = 0 ∧ rf_vt s r u) ∨ (k = 1 ∧ (0 ≤ r ∧ r < s.1 66 42) ∧ rf_is s u (s.2.1 96 r.toNat)) ∨ (k = 2 ∧ rf_vt s r u) ∨ (k = 3 ∧ u = .leaf ∧ ∃ e, rf_mp s j r .leaf e)
def rf_P (_ : Nat) (t : rf_T) : Prop := t = .leaf
/-- variables, types, constants, unknowns, rows are as they were, or more -/
def rf_xu (s t : sx_S) : Prop := rf_tu s t ∧ ∀ j : Nat, (s.1 66 58 ≤ t.1 66 58 ∧ s.1 66 56 ≤ t.1 66 56 ∧ s.1 66 50 ≤ t.1 66 50 ∧ t.1 66 42 = s.1 66 42 ∧ t.1 66 45 = s.1 66 45) ∧ ((j : Int) < s.1 66 58 → t.2.1 106 j = s.2.1 106 j) ∧ ((j : Int) < s.1 66 56 → t.2.1 105 j = s.2.1 105 j) ∧ ((j : Int) < s.1 66 50 → t.2.1 104 j = s.2.1 104 j) ∧ t.2.1 96 j = s.2.1 96 j ∧ t.2.1 123 j = s.2.1 123 j
theorem rf_xu_refl (s : sx_S) : rf_xu s s := ⟨rf_tu_refl s, fun _ => ⟨⟨Int.le_refl _, Int.le_refl _, Int.le_refl _, rfl, rfl⟩, fun _ => rfl, fun _ => rfl, fun _ => rfl, rfl, rfl⟩⟩
theorem rf_xu_trans {s t u : sx_S} (h2 : rf_xu t u) (h1 : rf_xu s t) : rf_xu s u := by
  refine ⟨rf_tu_trans h2.1 h1.1, fun j => ?_⟩
  obtain ⟨⟨a1, a2, a3, a4, a5⟩, a6, a7, a8, a9, a10⟩ := h1.2 j
  obtain ⟨⟨b1, b2, b3, b4, b5⟩, b6, b7, b8, b9, b10⟩ := h2.2 j
  exact ⟨⟨by omega, by omega, by omega, by omega, by omega⟩, fun h => (b6 (by omega)).trans (a6 h), fun h => (b7 (by omega)).trans (a7 h), fun h => (b8 (by omega)).trans (a8 h), b9.trans a9, b10.trans a10⟩
theorem rf_vt_up {s t : sx_S} (h : rf_xu s t) {v : Int} {x : rf_T} (g : rf_vt s v x) : rf_vt t v x := by
  obtain ⟨⟨g1, g2⟩, g3⟩ := g
  obtain ⟨⟨a1, _⟩, a6, _⟩ := h.2 v.toNat
  refine ⟨⟨g1, by omega⟩, ?_⟩
  rw [a6 (by omega)]
  exact rf_is_up g3 h.1
theorem rf_rp_up {s t : sx_S} (h : rf_xu s t) {y : rf_T} : ∀ {x : rf_T} {i e : Int}, 0 ≤ i → e ≤ s.1 66 56 → rf_rp s y x i e → rf_rp t y x i e ∧ i ≤ e
  | .leaf, i, e, h0, h1, g => ⟨g, by have := g.2; omega⟩
  | .inner n u v A B, i, e, h0, h1, g => by
    rcases g with ⟨g1, g2⟩ | ⟨g1, g2⟩
    · exact ⟨Or.inl ⟨g1, g2⟩, by omega⟩
    · obtain ⟨q1, q2⟩ := rf_rp_up h (by omega) h1 g2
      obtain ⟨_, _, a7, _⟩ := h.2 i.toNat
      refine ⟨Or.inr ⟨?_, q1⟩, by omega⟩
      rw [a7 (by omega)]
      exact rf_vt_up h g1
theorem rf_mp_up {s t : sx_S} (h : rf_xu s t) {j : Nat} (hj : (j : Int) < s.1 66 50) {r : Int} {y : rf_T} {e : Int} (g : rf_mp s j r y e) : rf_mp t j r y e := by
  obtain ⟨x, ⟨g1, g2, g3, g4⟩, g5, g6⟩ := g
  obtain ⟨⟨a1, a2, a3, a4, a5⟩, a6, a7, a8, a9, a10⟩ := h.2 j
  have b10 := (h.2 r.toNat).2.2.2.2.2
  refine ⟨x, ⟨by omega, g2, by rw [a8 hj]; exact g3, by omega⟩, ?_, ?_⟩
  · rw [b10]
    exact rf_is_up g5 h.1
  · rw [a8 hj]
    exact (rf_rp_up h g3 g4 g6).1
theorem rf_H_up {s t : sx_S} (h : rf_xu s t) {j : Nat} (hj : (j : Int) < s.1 66 50) {k r : Int} {u : rf_T} (g : rf_H s j k r u) : rf_H t j k r u := by
  rcases g with ⟨g1, g2⟩ | ⟨g1, g2, g3⟩ | ⟨g1, g2⟩ | ⟨g1, g2, e, g3⟩
  · exact Or.inl ⟨g1, rf_vt_up h g2⟩
  · refine Or.inr (Or.inl ⟨g1, ?_, ?_⟩)
    · have := (h.2 0).1
      omega
    · rw [(h.2 r.toNat).2.2.2.2.1]
      exact rf_is_up g3 h.1
  · exact Or.inr (Or.inr (Or.inl ⟨g1, rf_vt_up h g2⟩))
  · exact Or.inr (Or.inr (Or.inr ⟨g1, g2, e, rf_mp_up h hj g3⟩))
theorem rf_gt_up {s t : sx_S} (h : rf_xu s t) {n : rf_N} {i : Int} (hn : rf_no s n i) : (∀ x, (rf_gt (rf_H s) rf_P n).1 x → (rf_gt (rf_H t) rf_P n).1 x) ∧ (∀ x y, (rf_gt (rf_H s) rf_P n).2 x y → (rf_gt (rf_H t) rf_P n).2 x y) :=
  rf_gt_mono (fun j hj => ⟨fun k r u g => rf_H_up h (rf_nd_lt hn j hj) g, fun _ g => g⟩)
/-! chains of LAMs -/
def rf_ch : List (Nat × Int) → rf_N → rf_N
  | [], b => b
  | c :: l, b => rf_n c.1 0 c.2 (rf_ch l b) .leaf
def rf_cl : List (Nat × Int) → Nat → Nat
  | [], d => d
  | c :: l, _ => rf_cl l c.1
def rf_ct (s : sx_S) : List (Nat × Int) → rf_T → rf_T → Prop
  | [], x, y => x = y
  | c :: l, x, y => ∃ A B, x = rf_a A B ∧ rf_vt s c.2 A ∧ rf_ct s l B y
theorem rf_ct_up {s t : sx_S} (h : rf_xu s t) : ∀ {C : List (Nat × Int)} {x y : rf_T}, rf_ct s C x y → rf_ct t C x y
  | [], _, _, g => g
  | c :: l, _, _, ⟨A, B, g1, g2, g3⟩ => ⟨A, B, g1, rf_vt_up h g2, rf_ct_up h g3⟩
theorem rf_ct_snoc {s : sx_S} {j : Nat} {v : Int} {A B : rf_T} (hv : rf_vt s v A) : ∀ {C : List (Nat × Int)} {x : rf_T}, rf_ct s C x (rf_a A B) → rf_ct s (C ++ [(j, v)]) x B
  | [], x, g => ⟨A, B, g, hv, rfl⟩
  | c :: l, x, ⟨A', B', g1, g2, g3⟩ => ⟨A', B', g1, g2, rf_ct_snoc hv g3⟩
/-- a chain over what is of the type left -/
theorem rf_ct_gt {s : sx_S} {b : rf_N} : ∀ {C : List (Nat × Int)} {x y : rf_T}, rf_ct s C x y → (rf_gt (rf_H s) rf_P b).1 y → (rf_gt (rf_H s) rf_P (rf_ch C b)).1 x
  | [], x, y, g, h => by
    have e : x = y := g
    rw [e]
    exact h
  | c :: l, x, y, ⟨A, B, g1, g2, g3⟩, h => Or.inl ⟨rfl, A, B, g1, Or.inl ⟨rfl, g2⟩, rf_ct_gt g3 h⟩
theorem rf_ch_idx {b : rf_N} : ∀ {C : List (Nat × Int)} {j : Nat}, j ∈ rf_idx (rf_ch C b) ↔ j ∈ C.map Prod.fst ∨ j ∈ rf_idx b
  | [], j => ⟨Or.inr, fun h => h.elim (fun q => absurd q List.not_mem_nil) id⟩
  | c :: l, j => by
    have ih := rf_ch_idx (b := b) (C := l) (j := j)
    show j ∈ c.1 :: (rf_idx (rf_ch l b) ++ []) ↔ j ∈ c.1 :: l.map Prod.fst ∨ _
    rw [List.append_nil, List.mem_cons, List.mem_cons, ih, or_assoc]
theorem rf_ch_nodup {b : rf_N} (hb : (rf_idx b).Nodup) : ∀ {C : List (Nat × Int)}, (C.map Prod.fst).Nodup → (∀ j ∈ C.map Prod.fst, j ∉ rf_idx b) → (rf_idx (rf_ch C b)).Nodup
  | [], _, _ => hb
  | c :: l, h, hd => by
    obtain ⟨h1, h2⟩ := List.nodup_cons.mp h
    show (c.1 :: (rf_idx (rf_ch l b) ++ [])).Nodup
    rw [List.append_nil]
    refine List.nodup_cons.mpr ⟨fun q => ?_, rf_ch_nodup hb h2 (fun j hj => hd j (List.mem_cons_of_mem _ hj))⟩
    rcases rf_ch_idx.mp q with q | q
    · exact h1 q
    · exact hd c.1 List.mem_cons_self q
theorem rf_cl_mem : ∀ {C : List (Nat × Int)} {d : Nat}, C ≠ [] → rf_cl C d ∈ C.map Prod.fst
  | [], _, h => absurd rfl h
  | [c], _, _ => List.mem_cons_self
  | c :: c' :: l, d, _ => List.mem_cons_of_mem _ (rf_cl_mem (C := c' :: l) (d := c.1) (fun h => by cases h))
theorem rf_cl_snoc {j : Nat} {v : Int} : ∀ {C : List (Nat × Int)} {d : Nat}, rf_cl (C ++ [(j, v)]) d = j
  | [], _ => rfl
  | c :: l, d => rf_cl_snoc (C := l) (d := c.1)
/-- what the last LAM of a chain gets as its body -/
theorem rf_ch_set {K R F X F' : Nat → Int} {N p : Int} {tp : rf_N} (hp : rf_nd K R F' X N tp p) : ∀ {C : List (Nat × Int)} {i : Int} {d : Nat}, C ≠ [] → (C.map Prod.fst).Nodup → (∀ j, j ≠ rf_cl C d → F' j = F j) → F' (rf_cl C d) = p → rf_nd K R F X N (rf_ch C .leaf) i → rf_nd K R F' X N (rf_ch C tp) i
  | [], _, _, h, _, _, _, _ => absurd rfl h
  | [c], i, d, _, _, hF, hl, g => by
    obtain ⟨g1, g2, g3, g4⟩ := g
    refine ⟨g1, g2, ?_, g4⟩
    have e : F' c.1 = p := hl
    rw [e]
    exact hp
  | c :: c' :: l, i, d, _, hn, hF, hl, g => by
    obtain ⟨g1, g2, g3, g4⟩ := g
    obtain ⟨n1, n2⟩ := List.nodup_cons.mp hn
    refine ⟨g1, g2, ?_, g4⟩
    have hm : rf_cl (c' :: l) c.1 ∈ (c' :: l).map Prod.fst := rf_cl_mem (fun h => by cases h)
    have e : F' c.1 = F c.1 := hF c.1 (fun q => n1 (by rw [q]; exact hm))
    rw [e]
    exact rf_ch_set hp (C := c' :: l) (d := c.1) (fun h => by cases h) n2 hF hl g3
theorem rf_ch_snoc {j : Nat} {v : Int} {b : rf_N} : ∀ {C : List (Nat × Int)}, rf_ch (C ++ [(j, v)]) b = rf_ch C (rf_n j 0 v b .leaf)
  | [] => rfl
  | c :: l => by
    show rf_n c.1 0 c.2 (rf_ch (l ++ [(j, v)]) b) .leaf = _
    rw [rf_ch_snoc (C := l)]
    rfl
theorem rf_ch_wh {b : rf_N} : ∀ {C : List (Nat × Int)}, (rf_wh (rf_ch C b)).1 = C.length + (rf_wh b).1
  | [] => (Nat.zero_add _).symm
  | c :: l => by
    show (if (0 : Int) = 3 then 5 else if (0 : Int) = 0 then 1 + (rf_wh (rf_ch l b)).1 else 1 + (rf_wh (rf_ch l b)).2) = _
    rw [if_neg (by decide), if_pos rfl, rf_ch_wh (C := l), List.length_cons]
    omega
theorem rf_ch_oc {b : rf_N} {m : Int} : ∀ {C : List (Nat × Int)}, (rf_oc (rf_ch C b)).1 m ↔ (rf_oc b).1 m
  | [] => Iff.rfl
  | c :: l => by
    have ih := rf_ch_oc (b := b) (m := m) (C := l)
    constructor
    · rintro (⟨h, _⟩ | ⟨_, h⟩ | ⟨h, _⟩)
      · exact absurd (show (0 : Int) = 3 from h) (by decide)
      · exact ih.mp h
      · exact absurd (show (0 : Int) = 1 ∨ (0 : Int) = 2 from h) (by decide)
    · exact fun h => Or.inr (Or.inl ⟨rfl, ih.mpr h⟩)
theorem rf_ct_len {s : sx_S} : ∀ {C : List (Nat × Int)} {x y : rf_T}, rf_ct s C x y → C.length + rf_at y ≤ rf_at x
  | [], x, y, g => by
    have e : x = y := g
    rw [e]
    exact Nat.le_of_eq (Nat.zero_add _)
  | c :: l, x, y, ⟨A, B, g1, g2, g3⟩ => by
    have := rf_ct_len g3
    have h1 := rf_at_pos A
    rw [g1, List.length_cons]
    show _ ≤ rf_at A + rf_at B
    omega
