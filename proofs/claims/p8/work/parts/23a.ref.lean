/-! ===== the reference: what solving keeps. Ghosts: the body of an unknown, its names, which of its variables it uses ===== -/
abbrev rf_Gh : Type := (Int → rf_N) × (Int → rf_Y) × (Int → Nat → Prop)
/-- the q-th variable of node j; the q-th variable of a solved unknown; how many variables; the type of the q-th -/
def rf_rv1 (s : sx_S) (j q : Nat) : Int := s.2.1 105 (s.2.1 104 j + (q : Int)).toNat
def rf_fm (s : sx_S) (m : Int) (q : Nat) : Int := s.2.1 105 (s.2.1 112 m.toNat + (q : Int)).toNat
def rf_aa (s : sx_S) (m : Int) : Int := s.2.1 108 m.toNat
def rf_py (s : sx_S) (m : Int) (q : Nat) (x : rf_T) : Prop := (0 ≤ s.2.1 109 m.toNat ∧ s.2.1 109 m.toNat + (q : Int) < s.1 66 64) ∧ rf_is s x (s.2.1 110 (s.2.1 109 m.toNat + (q : Int)).toNat) ∧ rf_at x ≤ 5
/-- a variable below b -/
def rf_vb (b : Int) (s : sx_S) (v : Int) (x : rf_T) : Prop := (0 ≤ v ∧ v < b) ∧ rf_is s x (s.2.1 106 v.toNat)
theorem rf_vb_inj {b c : Int} {s : sx_S} {v : Int} {x y : rf_T} (h : rf_vb b s v x) (g : rf_vb c s v y) : x = y := rf_ty_inj h.2 g.2
theorem rf_py_inj {s : sx_S} {m : Int} {q : Nat} {x y : rf_T} (h : rf_py s m q x) (g : rf_py s m q y) : x = y := rf_ty_inj h.2.1 g.2.1
/-- the type of a head; N: variables that are no variables of the desk -/
def rf_Hn (b : Int) (s : sx_S) (N : Int → rf_T → Prop) (j : Nat) (k r : Int) (u : rf_T) : Prop := (k = 0 ∧ rf_vb b s r u) ∨ (k = 1 ∧ (0 ≤ r ∧ r < s.1 66 42) ∧ rf_is s u (s.2.1 96 r.toNat)) ∨ (k = 2 ∧ rf_vb b s r u) ∨ (k = 3 ∧ u = .leaf ∧ (0 ≤ r ∧ r < s.1 66 61) ∧ (0 ≤ s.2.1 104 j ∧ s.2.1 104 j + rf_aa s r ≤ s.1 66 56) ∧ ∀ q : Nat, (q : Int) < rf_aa s r → ∃ x, rf_py s r q x ∧ (rf_vb b s (rf_rv1 s j q) x ∨ N (rf_rv1 s j q) x))
/-- nothing below these marks has changed, and no solved unknown -/
def rf_EX (nb ib : Int) (s t : sx_S) : Prop := ((t.1 66 9 = s.1 66 9 ∧ t.2.1 72 = s.2.1 72 ∧ t.2.1 73 = s.2.1 73 ∧ t.2.1 96 = s.2.1 96 ∧ t.1 66 42 = s.1 66 42) ∧ s.1 66 50 ≤ t.1 66 50 ∧ s.1 66 56 ≤ t.1 66 56 ∧ s.1 66 61 ≤ t.1 66 61 ∧ s.1 66 64 ≤ t.1 66 64 ∧ s.1 66 70 ≤ t.1 66 70) ∧ ∀ j : Nat, ((j : Int) < s.1 66 50 → t.2.1 100 j = s.2.1 100 j ∧ t.2.1 101 j = s.2.1 101 j ∧ t.2.1 102 j = s.2.1 102 j ∧ t.2.1 103 j = s.2.1 103 j ∧ t.2.1 104 j = s.2.1 104 j) ∧ ((j : Int) < s.1 66 56 → t.2.1 105 j = s.2.1 105 j) ∧ ((j : Int) < ib → t.2.1 106 j = s.2.1 106 j) ∧ ((j : Int) < s.1 66 61 → t.2.1 108 j = s.2.1 108 j ∧ t.2.1 109 j = s.2.1 109 j ∧ (s.2.1 111 j ≠ 0 → t.2.1 111 j = s.2.1 111 j ∧ t.2.1 112 j = s.2.1 112 j ∧ t.2.1 113 j = s.2.1 113 j ∧ t.2.1 114 j = s.2.1 114 j)) ∧ ((j : Int) < s.1 66 64 → t.2.1 110 j = s.2.1 110 j) ∧ ((j : Int) < nb → t.2.1 115 j = s.2.1 115 j ∧ t.2.1 116 j = s.2.1 116 j ∧ t.2.1 117 j = s.2.1 117 j)
theorem rf_EX_refl (nb ib : Int) (s : sx_S) : rf_EX nb ib s s := ⟨⟨⟨rfl, rfl, rfl, rfl, rfl⟩, Int.le_refl _, Int.le_refl _, Int.le_refl _, Int.le_refl _, Int.le_refl _⟩, fun _ => ⟨fun _ => ⟨rfl, rfl, rfl, rfl, rfl⟩, fun _ => rfl, fun _ => rfl, fun _ => ⟨rfl, rfl, fun _ => ⟨rfl, rfl, rfl, rfl⟩⟩, fun _ => rfl, fun _ => ⟨rfl, rfl, rfl⟩⟩⟩
theorem rf_EX_trans {nb ib nb' ib' : Int} {s t u : sx_S} (h2 : rf_EX nb' ib' t u) (h1 : rf_EX nb ib s t) (hn : nb ≤ nb') (hi : ib ≤ ib') : rf_EX nb ib s u := by
  obtain ⟨⟨⟨a1, a2, a3, a4, a5⟩, a6, a7, a8, a9, a10⟩, a⟩ := h1
  obtain ⟨⟨⟨b1, b2, b3, b4, b5⟩, b6, b7, b8, b9, b10⟩, b⟩ := h2
  refine ⟨⟨⟨b1.trans a1, b2.trans a2, b3.trans a3, b4.trans a4, b5.trans a5⟩, by omega, by omega, by omega, by omega, by omega⟩, fun j => ?_⟩
  obtain ⟨c1, c2, c3, c4, c5, c6⟩ := a j
  obtain ⟨d1, d2, d3, d4, d5, d6⟩ := b j
  refine ⟨fun q => ?_, fun q => (d2 (by omega)).trans (c2 q), fun q => (d3 (by omega)).trans (c3 q), fun q => ?_, fun q => (d5 (by omega)).trans (c5 q), fun q => ?_⟩
  · obtain ⟨e1, e2, e3, e4, e5⟩ := c1 q
    obtain ⟨f1, f2, f3, f4, f5⟩ := d1 (by omega)
    exact ⟨f1.trans e1, f2.trans e2, f3.trans e3, f4.trans e4, f5.trans e5⟩
  · obtain ⟨e1, e2, e3⟩ := c4 q
    obtain ⟨f1, f2, f3⟩ := d4 (by omega)
    refine ⟨f1.trans e1, f2.trans e2, fun z => ?_⟩
    obtain ⟨g1, g2, g3, g4⟩ := e3 z
    obtain ⟨k1, k2, k3, k4⟩ := f3 (by rw [g1]; exact z)
    exact ⟨k1.trans g1, k2.trans g2, k3.trans g3, k4.trans g4⟩
  · obtain ⟨e1, e2, e3⟩ := c6 q
    obtain ⟨f1, f2, f3⟩ := d6 (by omega)
    exact ⟨f1.trans e1, f2.trans e2, f3.trans e3⟩
theorem rf_EX_le {nb ib nb' ib' : Int} {s t : sx_S} (h : rf_EX nb' ib' s t) (hn : nb ≤ nb') (hi : ib ≤ ib') : rf_EX nb ib s t := rf_EX_trans h (rf_EX_refl nb ib s) hn hi
theorem rf_EX.is {nb ib : Int} {s t : sx_S} (h : rf_EX nb ib s t) (x : rf_T) (z : Int) : rf_is t x z ↔ rf_is s x z := by
  obtain ⟨⟨⟨a1, a2, a3, _⟩, _⟩, _⟩ := h
  unfold rf_is
  rw [a1, a2, a3]
theorem rf_EX.vb {nb ib b : Int} {s t : sx_S} (h : rf_EX nb ib s t) (hb : b ≤ ib) (v : Int) (x : rf_T) : rf_vb b t v x ↔ rf_vb b s v x := by
  constructor
  · rintro ⟨⟨h1, h2⟩, h3⟩
    refine ⟨⟨h1, h2⟩, ?_⟩
    rw [← (h.2 v.toNat).2.2.1 (by omega)]
    exact (h.is x _).mp h3
  · rintro ⟨⟨h1, h2⟩, h3⟩
    refine ⟨⟨h1, h2⟩, ?_⟩
    rw [(h.2 v.toNat).2.2.1 (by omega)]
    exact (h.is x _).mpr h3
theorem rf_vb_le {b c : Int} {s : sx_S} {v : Int} {x : rf_T} (hb : b ≤ c) (h : rf_vb b s v x) : rf_vb c s v x := ⟨⟨h.1.1, by have := h.1.2; omega⟩, h.2⟩
theorem rf_EX.aa {nb ib : Int} {s t : sx_S} (h : rf_EX nb ib s t) {m : Int} (h0 : 0 ≤ m) (hm : m < s.1 66 61) : rf_aa t m = rf_aa s m := ((h.2 m.toNat).2.2.2.1 (by omega)).1
theorem rf_EX.pt {nb ib : Int} {s t : sx_S} (h : rf_EX nb ib s t) {m : Int} (h0 : 0 ≤ m) (hm : m < s.1 66 61) {q : Nat} {x : rf_T} (g : rf_py s m q x) : rf_py t m q x := by
  obtain ⟨⟨g1, g2⟩, g3, g4⟩ := g
  have e := ((h.2 m.toNat).2.2.2.1 (by omega)).2.1
  have e2 := h.1.2.2.2.2.1
  refine ⟨⟨by omega, by omega⟩, ?_, g4⟩
  rw [e, (h.2 _).2.2.2.2.1 (by omega)]
  exact (h.is x _).mpr g3
theorem rf_EX.ptR {nb ib : Int} {s t : sx_S} (h : rf_EX nb ib s t) {m : Int} (h0 : 0 ≤ m) (hm : m < s.1 66 61) {q : Nat} {x y : rf_T} (g : rf_py s m q y) (k : rf_py t m q x) : rf_py s m q x := by
  have := rf_py_inj (h.pt h0 hm g) k
  rw [← this]
  exact g
theorem rf_EX.rv {nb ib : Int} {s t : sx_S} (h : rf_EX nb ib s t) {j q : Nat} (hj : (j : Int) < s.1 66 50) (h0 : 0 ≤ s.2.1 104 j) (hq : s.2.1 104 j + (q : Int) < s.1 66 56) : rf_rv1 t j q = rf_rv1 s j q := by
  unfold rf_rv1
  rw [((h.2 j).1 hj).2.2.2.2]
  exact (h.2 _).2.1 (by omega)
theorem rf_EX.fm {nb ib : Int} {s t : sx_S} (h : rf_EX nb ib s t) {m : Int} (h0 : 0 ≤ m) (hm : m < s.1 66 61) (hs : s.2.1 111 m.toNat ≠ 0) {q : Nat} (h1 : 0 ≤ s.2.1 112 m.toNat) (hq : s.2.1 112 m.toNat + (q : Int) < s.1 66 56) : rf_fm t m q = rf_fm s m q := by
  unfold rf_fm
  rw [(((h.2 m.toNat).2.2.2.1 (by omega)).2.2 hs).2.1]
  exact (h.2 _).2.1 (by omega)
theorem rf_EX.no {nb ib : Int} {s t : sx_S} (h : rf_EX nb ib s t) {n : rf_N} {i : Int} (g : rf_no s n i) : rf_no t n i := rf_nd_up h.1.2.1 (fun j hj => by
  obtain ⟨e1, e2, e3, e4, _⟩ := (h.2 j).1 hj
  exact ⟨e1, e2, e3, e4⟩) g
theorem rf_Hn_up {nb ib ib' : Int} {s t : sx_S} {N N' : Int → rf_T → Prop} (h : rf_EX nb ib s t) (hb : ib ≤ ib') (hN : ∀ v x, N v x → N' v x) {j : Nat} (hj : (j : Int) < s.1 66 50) {k r : Int} {u : rf_T} (g : rf_Hn ib s N j k r u) : rf_Hn ib' t N' j k r u := by
  rcases g with ⟨g1, g2⟩ | ⟨g1, g2, g3⟩ | ⟨g1, g2⟩ | ⟨g1, g2, g3, g4, g5⟩
  · exact Or.inl ⟨g1, rf_vb_le hb ((h.vb (Int.le_refl _) _ _).mpr g2)⟩
  · refine Or.inr (Or.inl ⟨g1, by rw [h.1.1.2.2.2.2]; exact g2, ?_⟩)
    rw [h.1.1.2.2.2.1]
    exact (h.is _ _).mpr g3
  · exact Or.inr (Or.inr (Or.inl ⟨g1, rf_vb_le hb ((h.vb (Int.le_refl _) _ _).mpr g2)⟩))
  · have e1 := h.aa g3.1 g3.2
    have e2 := ((h.2 j).1 hj).2.2.2.2
    have e3 := h.1.2.2.1
    have e4 := h.1.2.2.2.1
    refine Or.inr (Or.inr (Or.inr ⟨g1, g2, ⟨g3.1, by omega⟩, ⟨by omega, by omega⟩, fun q hq => ?_⟩))
    obtain ⟨x, x1, x2⟩ := g5 q (by omega)
    rw [h.rv hj g4.1 (by omega)]
    refine ⟨x, h.pt g3.1 g3.2 x1, ?_⟩
    rcases x2 with x2 | x2
    · exact Or.inl (rf_vb_le hb ((h.vb (Int.le_refl _) _ _).mpr x2))
    · exact Or.inr (hN _ _ x2)
theorem rf_gn_up {nb ib ib' : Int} {s t : sx_S} {N N' : Int → rf_T → Prop} (h : rf_EX nb ib s t) (hb : ib ≤ ib') (hN : ∀ v x, N v x → N' v x) {n : rf_N} {i : Int} (hn : rf_no s n i) : (∀ x, (rf_gt (rf_Hn ib s N) rf_P n).1 x → (rf_gt (rf_Hn ib' t N') rf_P n).1 x) ∧ (∀ x y, (rf_gt (rf_Hn ib s N) rf_P n).2 x y → (rf_gt (rf_Hn ib' t N') rf_P n).2 x y) :=
  rf_gt_mono (fun j hj => ⟨fun k r u g => rf_Hn_up h hb hN (rf_nd_lt hn j hj) g, fun _ g => g⟩)
/-! all unknowns of a tree -/
def rf_am (p : Nat → Int → Prop) : rf_N → Prop × Prop
  | .leaf => (True, True)
  | .inner j k _ f x => ((k.1 = 3 → p j k.2) ∧ (k.1 = 0 → (rf_am p f).1) ∧ (k.1 = 1 ∨ k.1 = 2 → (rf_am p f).2), ((k.1 = 3 → p j k.2) ∧ (k.1 = 0 → (rf_am p f).1) ∧ (k.1 = 1 ∨ k.1 = 2 → (rf_am p f).2)) ∧ (rf_am p x).2)
theorem rf_am_mono {p p' : Nat → Int → Prop} : ∀ {n : rf_N}, (∀ j ∈ rf_idx n, ∀ r, p j r → p' j r) → ((rf_am p n).1 → (rf_am p' n).1) ∧ ((rf_am p n).2 → (rf_am p' n).2)
  | .leaf, _ => ⟨fun h => h, fun h => h⟩
  | .inner j k u f x, hM => by
    have hf := rf_am_mono (n := f) (fun q hq => hM q (List.mem_cons_of_mem _ (List.mem_append_left _ hq)))
    have hx := rf_am_mono (n := x) (fun q hq => hM q (List.mem_cons_of_mem _ (List.mem_append_right _ hq)))
    have hj := hM j List.mem_cons_self
    have h1 : (rf_am p (.inner j k u f x)).1 → (rf_am p' (.inner j k u f x)).1 := fun ⟨a, b, c⟩ => ⟨fun q => hj _ (a q), fun q => hf.1 (b q), fun q => hf.2 (c q)⟩
    exact ⟨h1, fun ⟨a, b⟩ => ⟨h1 a, hx.2 b⟩⟩
/-- what holds of all unknowns, twice -/
theorem rf_am_and {p p' p2 : Nat → Int → Prop} (hp : ∀ j r, p j r → p' j r → p2 j r) : ∀ {n : rf_N}, ((rf_am p n).1 → (rf_am p' n).1 → (rf_am p2 n).1) ∧ ((rf_am p n).2 → (rf_am p' n).2 → (rf_am p2 n).2)
  | .leaf => ⟨fun h _ => h, fun h _ => h⟩
  | .inner j k u f x => by
    have hf := rf_am_and hp (n := f)
    have hx := rf_am_and hp (n := x)
    have h1 : (rf_am p (.inner j k u f x)).1 → (rf_am p' (.inner j k u f x)).1 → (rf_am p2 (.inner j k u f x)).1 := fun ⟨a, b, c⟩ ⟨a', b', c'⟩ => ⟨fun q => hp _ _ (a q) (a' q), fun q => hf.1 (b q) (b' q), fun q => hf.2 (c q) (c' q)⟩
    exact ⟨h1, fun ⟨a, b⟩ ⟨a', b'⟩ => ⟨h1 a a', hx.2 b b'⟩⟩
theorem rf_am_gt {H : Nat → Int → Int → rf_T → Prop} {P : Nat → rf_T → Prop} {p : Nat → Int → Prop} (hp : ∀ j r u, H j 3 r u → p j r) : ∀ {n : rf_N}, (∀ x, (rf_gt H P n).1 x → (rf_am p n).1) ∧ (∀ x y, (rf_gt H P n).2 x y → (rf_am p n).2)
  | .leaf => ⟨fun _ _ => trivial, fun _ _ _ => trivial⟩
  | .inner j k u f x => by
    have hf := rf_am_gt hp (P := P) (n := f)
    have hx := rf_am_gt hp (P := P) (n := x)
    have h1 : ∀ t, (rf_gt H P (.inner j k u f x)).1 t → (rf_am p (.inner j k u f x)).1 := by
      rintro t (⟨e, A, B, _, _, q3⟩ | ⟨e, w, q1, q2, _⟩)
      · exact ⟨fun q => by omega, fun _ => hf.1 _ q3, fun q => by omega⟩
      · refine ⟨fun q => ?_, fun q => absurd q e, fun _ => hf.2 _ _ q2⟩
        rw [q] at q1
        exact hp _ _ _ q1
    refine ⟨h1, ?_⟩
    rintro w t ⟨A, B, _, q2, q3⟩
    exact ⟨h1 A q2, hx.2 _ _ q3⟩
/-! the variables that stand free in a tree; W: those of an unknown -/
def rf_fo (W : Nat → Int → Int → Prop) : rf_N → (Int → Prop) × (Int → Prop)
  | .leaf => (fun _ => False, fun _ => False)
  | .inner j k _ f x => (fun v => (k.1 = 3 ∧ W j k.2 v) ∨ (k.1 = 0 ∧ v ≠ k.2 ∧ (rf_fo W f).1 v) ∨ ((k.1 = 1 ∨ k.1 = 2) ∧ ((k.1 = 2 ∧ v = k.2) ∨ (rf_fo W f).2 v)), fun v => ((k.1 = 3 ∧ W j k.2 v) ∨ (k.1 = 0 ∧ v ≠ k.2 ∧ (rf_fo W f).1 v) ∨ ((k.1 = 1 ∨ k.1 = 2) ∧ ((k.1 = 2 ∧ v = k.2) ∨ (rf_fo W f).2 v))) ∨ (rf_fo W x).2 v)
theorem rf_fo_mono {W W' : Nat → Int → Int → Prop} : ∀ {n : rf_N}, ((rf_am (fun j r => ∀ v, W' j r v → W j r v) n).1 → ∀ v, (rf_fo W' n).1 v → (rf_fo W n).1 v) ∧ ((rf_am (fun j r => ∀ v, W' j r v → W j r v) n).2 → ∀ v, (rf_fo W' n).2 v → (rf_fo W n).2 v)
  | .leaf => ⟨fun _ _ h => h, fun _ _ h => h⟩
  | .inner j k u f x => by
    have hf := rf_fo_mono (W := W) (W' := W') (n := f)
    have hx := rf_fo_mono (W := W) (W' := W') (n := x)
    have h1 : (rf_am (fun j r => ∀ v, W' j r v → W j r v) (.inner j k u f x)).1 → ∀ v, (rf_fo W' (.inner j k u f x)).1 v → (rf_fo W (.inner j k u f x)).1 v := by
      rintro ⟨a, b, d⟩ v (⟨e, h⟩ | ⟨e, h0, h⟩ | ⟨e, h⟩)
      · exact Or.inl ⟨e, a e v h⟩
      · exact Or.inr (Or.inl ⟨e, h0, hf.1 (b e) v h⟩)
      · exact Or.inr (Or.inr ⟨e, h.elim Or.inl (fun z => Or.inr (hf.2 (d e) v z))⟩)
    refine ⟨h1, ?_⟩
    rintro ⟨a, b⟩ v (h | h)
    · exact Or.inl (h1 a v h)
    · exact Or.inr (hx.2 b v h)
/-- a free variable is typed -/
theorem rf_fo_ty {ib : Int} {s : sx_S} {N : Int → rf_T → Prop} {P : Nat → rf_T → Prop} {W : Nat → Int → Int → Prop} : ∀ {n : rf_N}, (∀ x, (rf_gt (rf_Hn ib s N) P n).1 x → (rf_am (fun j r => ∀ v, W j r v → ∃ q : Nat, (q : Int) < rf_aa s r ∧ v = rf_rv1 s j q) n).1 → ∀ v, (rf_fo W n).1 v → ∃ T, rf_vb ib s v T ∨ N v T) ∧ (∀ x y, (rf_gt (rf_Hn ib s N) P n).2 x y → (rf_am (fun j r => ∀ v, W j r v → ∃ q : Nat, (q : Int) < rf_aa s r ∧ v = rf_rv1 s j q) n).2 → ∀ v, (rf_fo W n).2 v → ∃ T, rf_vb ib s v T ∨ N v T)
  | .leaf => ⟨fun _ _ _ _ h => h.elim, fun _ _ _ _ _ h => h.elim⟩
  | .inner j k u f x => by
    have hf := rf_fo_ty (ib := ib) (s := s) (N := N) (P := P) (W := W) (n := f)
    have hx := rf_fo_ty (ib := ib) (s := s) (N := N) (P := P) (W := W) (n := x)
    have h1 : ∀ t, (rf_gt (rf_Hn ib s N) P (.inner j k u f x)).1 t → (rf_am (fun j r => ∀ v, W j r v → ∃ q : Nat, (q : Int) < rf_aa s r ∧ v = rf_rv1 s j q) (.inner j k u f x)).1 → ∀ v, (rf_fo W (.inner j k u f x)).1 v → ∃ T, rf_vb ib s v T ∨ N v T := by
      rintro t g ⟨a, b, d⟩ v h
      rcases g with ⟨e, A, B, q1, q2, q3⟩ | ⟨e, w, q1, q2, q3⟩
      · rcases h with ⟨e2, h⟩ | ⟨e2, h0, h⟩ | ⟨e2, h⟩
        · omega
        · exact hf.1 _ q3 (b e) v h
        · omega
      · rcases h with ⟨e2, h⟩ | ⟨e2, h0, h⟩ | ⟨e2, h⟩
        · obtain ⟨q, z1, z2⟩ := a e2 v h
          rcases q1 with ⟨c1, _⟩ | ⟨c1, _⟩ | ⟨c1, _⟩ | ⟨c1, c2, c3, c4, c5⟩
          · omega
          · omega
          · omega
          · obtain ⟨T, _, t2⟩ := c5 q z1
            rw [z2]
            exact ⟨T, t2⟩
        · omega
        · rcases h with ⟨e3, h⟩ | h
          · rcases q1 with ⟨c1, _⟩ | ⟨c1, _⟩ | ⟨c1, c2⟩ | ⟨c1, _⟩
            · omega
            · omega
            · rw [h]
              exact ⟨w, Or.inl c2⟩
            · omega
          · exact hf.2 _ _ q2 (d e2) v h
    refine ⟨h1, ?_⟩
    rintro w t ⟨A, B, _, q2, q3⟩ ⟨a, b⟩ v (h | h)
    · exact h1 A q2 a v h
    · exact hx.2 _ _ q3 b v h
/-- the used variables of an unknown at a node; they are distinct -/
def rf_Wd (s : sx_S) (U : Int → Nat → Prop) (j : Nat) (r v : Int) : Prop := ∃ q : Nat, U r q ∧ v = rf_rv1 s j q
def rf_di (s : sx_S) (U : Int → Nat → Prop) (j : Nat) (r : Int) : Prop := ∀ p q : Nat, U r p → U r q → rf_rv1 s j p = rf_rv1 s j q → p = q
/-- variables of an unknown that were narrowed away -/
def rf_Nx (s : sx_S) (x v : Int) (T : rf_T) : Prop := v < 0 ∧ ∃ q : Nat, (q : Int) < rf_aa s x ∧ v = rf_fm s x q ∧ rf_py s x q T
/-- a row of names, looked up -/
theorem rf_row_look {f t : Nat → Int} {q : Nat} : ∀ {n : Nat}, (∀ a b, a < n → b < n → f a = f b → a = b) → q < n → rf_look (rf_row f t n) (f q) = t q
  | 0, _, h => absurd h (Nat.not_lt_zero _)
  | n + 1, hi, h => by
    show (if f n = f q then t n else rf_look (rf_row f t n) (f q)) = t q
    by_cases e : n = q
    · subst e
      rw [if_pos rfl]
    · rw [if_neg (fun z => e (hi n q (by omega) h z))]
      exact rf_row_look (fun a b ha hb => hi a b (by omega) (by omega)) (by omega)
