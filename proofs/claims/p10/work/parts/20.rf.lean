section
/-! ===== the reference: types, trees, names (pure). The trees are the library's own binary trees with a number and a key at each fork ===== -/
/-- the shape of a type -/
abbrev rf_T : Type := Std.DTreeMap.Internal.Impl Unit (fun _ => Unit)
abbrev rf_b : rf_T := .leaf
abbrev rf_a (x y : rf_T) : rf_T := .inner 0 () () x y
/-- atoms -/
def rf_at : rf_T → Nat
  | .leaf => 1
  | .inner _ _ _ x y => rf_at x + rf_at y
/-- what it wants -/
def rf_args : rf_T → List rf_T
  | .leaf => []
  | .inner _ _ _ x y => x :: rf_args y
theorem rf_at_pos : ∀ x : rf_T, 1 ≤ rf_at x
  | .leaf => Nat.le_refl _
  | .inner _ _ _ x y => by
    have := rf_at_pos x
    unfold rf_at
    omega
theorem rf_args_at : ∀ x : rf_T, (rf_args x).length + 1 ≤ rf_at x
  | .leaf => Nat.le_refl _
  | .inner _ _ _ x y => by
    have := rf_at_pos x
    have := rf_args_at y
    unfold rf_at rf_args
    rw [List.length_cons]
    omega
/-- number t is of this shape -/
def rf_ty (L R : Nat → Int) (N : Int) : rf_T → Int → Prop
  | .leaf, t => 0 ≤ t ∧ t < 2
  | .inner n _ _ x y, t => (n = 0 ∧ 2 ≤ t ∧ t < N) ∧ rf_ty L R N x (L t.toNat) ∧ rf_ty L R N y (R t.toNat)
theorem rf_ty_inj {L R : Nat → Int} {N : Int} : ∀ {x y : rf_T} {t : Int}, rf_ty L R N x t → rf_ty L R N y t → x = y
  | .leaf, .leaf, _, _, _ => rfl
  | .leaf, .inner _ _ _ _ _, _, h, g => by
    have := h.2
    have := g.1.2.1
    omega
  | .inner _ _ _ _ _, .leaf, _, h, g => by
    have := g.2
    have := h.1.2.1
    omega
  | .inner n _ _ _ _, .inner m _ _ _ _, _, h, g => by
    rw [rf_ty_inj h.2.1 g.2.1, rf_ty_inj h.2.2 g.2.2, h.1.1, g.1.1]
theorem rf_ty_mono {L R L' R' : Nat → Int} {N N' : Int} (hL : ∀ j : Nat, (j : Int) < N → L' j = L j ∧ R' j = R j) (hN : N ≤ N') : ∀ {x : rf_T} {t : Int}, rf_ty L R N x t → rf_ty L' R' N' x t
  | .leaf, _, h => h
  | .inner _ _ _ x y, t, h => by
    obtain ⟨⟨h0, h1, h2⟩, h3, h4⟩ := h
    obtain ⟨e1, e2⟩ := hL t.toNat (by omega)
    refine ⟨⟨h0, h1, by omega⟩, ?_, ?_⟩
    · rw [e1]
      exact rf_ty_mono hL hN h3
    · rw [e2]
      exact rf_ty_mono hL hN h4
theorem rf_ty_lo {L R : Nat → Int} {N : Int} : ∀ {x : rf_T} {t : Int}, rf_ty L R N x t → 0 ≤ t
  | .leaf, _, h => h.1
  | .inner _ _ _ _ _, _, h => by
    have := h.1.2.1
    omega
theorem rf_ty_hi {L R : Nat → Int} {N : Int} (hN : 2 ≤ N) : ∀ {x : rf_T} {t : Int}, rf_ty L R N x t → t < N
  | .leaf, _, h => by
    have := h.2
    omega
  | .inner _ _ _ _ _, _, h => h.1.2.2
/-- a small number is a basic type, a large one an arrow -/
theorem rf_ty_b {L R : Nat → Int} {N : Int} : ∀ {x : rf_T} {t : Int}, rf_ty L R N x t → t < 2 → x = rf_b
  | .leaf, _, _, _ => rfl
  | .inner _ _ _ _ _, _, h, g => by
    have := h.1.2.1
    omega
theorem rf_ty_a {L R : Nat → Int} {N : Int} : ∀ {x : rf_T} {t : Int}, rf_ty L R N x t → 2 ≤ t → ∃ y z, x = rf_a y z ∧ rf_ty L R N y (L t.toNat) ∧ rf_ty L R N z (R t.toNat)
  | .leaf, _, h, g => by
    have := h.2
    omega
  | .inner n _ _ y z, _, h, _ => ⟨y, z, by rw [h.1.1], h.2⟩

/-! names: 0 (f, t): f is called t, then the others; n + 1: first the ones, then the others -/
abbrev rf_Y : Type := Std.DTreeMap.Internal.Impl (Int × Int) (fun _ => Unit)
abbrev rf_one (f t : Int) (r : rf_Y) : rf_Y := .inner 0 (f, t) () .leaf r
abbrev rf_app (a r : rf_Y) : rf_Y := .inner 1 (0, 0) () a r
def rf_look : rf_Y → Int → Int
  | .leaf, x => x
  | .inner 0 k _ _ r, x => if k.1 = x then k.2 else rf_look r x
  | .inner (_ + 1) _ _ a r, x => rf_look r (rf_look a x)
def rf_dp : rf_Y → Nat
  | .leaf => 0
  | .inner 0 _ _ _ r => rf_dp r
  | .inner (_ + 1) _ _ a r => max (rf_dp a + 1) (rf_dp r)
def rf_by (F T R : Nat → Int) (N : Int) : rf_Y → Int → Prop
  | .leaf, i => i = -1
  | .inner 0 k _ _ r, i => (0 ≤ i ∧ i < N ∧ k.1 ≠ -1) ∧ F i.toNat = k.1 ∧ T i.toNat = k.2 ∧ rf_by F T R N r (R i.toNat)
  | .inner (_ + 1) _ _ a r, i => (0 ≤ i ∧ i < N) ∧ F i.toNat = -1 ∧ rf_by F T R N a (T i.toNat) ∧ rf_by F T R N r (R i.toNat)
theorem rf_by_mono {F T R F' T' R' : Nat → Int} {N N' : Int} (hL : ∀ j : Nat, (j : Int) < N → F' j = F j ∧ T' j = T j ∧ R' j = R j) (hN : N ≤ N') : ∀ {y : rf_Y} {i : Int}, rf_by F T R N y i → rf_by F' T' R' N' y i
  | .leaf, _, h => h
  | .inner 0 k _ _ r, i, h => by
    obtain ⟨⟨h1, h2, h3⟩, h4, h5, h6⟩ := h
    obtain ⟨e1, e2, e3⟩ := hL i.toNat (by omega)
    refine ⟨⟨h1, by omega, h3⟩, e1.trans h4, e2.trans h5, ?_⟩
    rw [e3]
    exact rf_by_mono hL hN h6
  | .inner (_ + 1) _ _ a r, i, h => by
    obtain ⟨⟨h1, h2⟩, h4, h5, h6⟩ := h
    obtain ⟨e1, e2, e3⟩ := hL i.toNat (by omega)
    refine ⟨⟨h1, by omega⟩, e1.trans h4, ?_, ?_⟩
    · rw [e2]
      exact rf_by_mono hL hN h5
    · rw [e3]
      exact rf_by_mono hL hN h6
theorem rf_by_hi {F T R : Nat → Int} {N : Int} : ∀ {y : rf_Y} {i : Int}, rf_by F T R N y i → -1 ≤ i ∧ (i < N ∨ i = -1)
  | .leaf, _, h => ⟨by rw [h]; exact Int.le_refl _, Or.inr h⟩
  | .inner 0 _ _ _ _, i, h => ⟨by have := h.1.1; omega, Or.inl h.1.2.1⟩
  | .inner (_ + 1) _ _ _ _, i, h => ⟨by have := h.1.1; omega, Or.inl h.1.2⟩
/-! trees of nodes: number, (kind, ref), first part, next -/
abbrev rf_N : Type := Std.DTreeMap.Internal.Impl (Int × Int) (fun _ => Unit)
abbrev rf_n (j : Nat) (k r : Int) (f x : rf_N) : rf_N := .inner j (k, r) () f x
def rf_idx : rf_N → List Nat
  | .leaf => []
  | .inner j _ _ f x => j :: (rf_idx f ++ rf_idx x)
def rf_nd (K R F X : Nat → Int) (N : Int) : rf_N → Int → Prop
  | .leaf, i => i = -1
  | .inner j k _ f x, i => (i = (j : Int) ∧ (j : Int) < N) ∧ (K j = k.1 ∧ R j = k.2) ∧ rf_nd K R F X N f (F j) ∧ rf_nd K R F X N x (X j)
theorem rf_nd_mono {K R F X K' R' F' X' : Nat → Int} {N N' : Int} (hN : N ≤ N') : ∀ {t : rf_N} {i : Int}, (∀ j ∈ rf_idx t, K' j = K j ∧ R' j = R j ∧ F' j = F j ∧ X' j = X j) → rf_nd K R F X N t i → rf_nd K' R' F' X' N' t i
  | .leaf, _, _, h => h
  | .inner j k _ f x, i, hq, h => by
    obtain ⟨⟨h1, h2⟩, ⟨h3, h4⟩, h5, h6⟩ := h
    obtain ⟨e1, e2, e3, e4⟩ := hq j (List.mem_cons_self)
    refine ⟨⟨h1, by omega⟩, ⟨e1.trans h3, e2.trans h4⟩, ?_, ?_⟩
    · rw [e3]
      exact rf_nd_mono hN (fun q hj => hq q (List.mem_cons_of_mem _ (List.mem_append_left _ hj))) h5
    · rw [e4]
      exact rf_nd_mono hN (fun q hj => hq q (List.mem_cons_of_mem _ (List.mem_append_right _ hj))) h6
theorem rf_nd_lt {K R F X : Nat → Int} {N : Int} : ∀ {t : rf_N} {i : Int}, rf_nd K R F X N t i → ∀ j ∈ rf_idx t, (j : Int) < N
  | .leaf, _, _, j, hj => absurd hj List.not_mem_nil
  | .inner j k _ f x, i, h, q, hq => by
    rcases List.mem_cons.mp hq with rfl | hq
    · exact h.1.2
    · rcases List.mem_append.mp hq with hq | hq
      · exact rf_nd_lt h.2.2.1 q hq
      · exact rf_nd_lt h.2.2.2 q hq
/-- all that lies below N is as it was -/
theorem rf_nd_up {K R F X K' R' F' X' : Nat → Int} {N N' : Int} (hN : N ≤ N') (hq : ∀ j : Nat, (j : Int) < N → K' j = K j ∧ R' j = R j ∧ F' j = F j ∧ X' j = X j) {t : rf_N} {i : Int} (h : rf_nd K R F X N t i) : rf_nd K' R' F' X' N' t i :=
  rf_nd_mono hN (fun j hj => hq j (rf_nd_lt h j hj)) h
theorem rf_nd_rng {K R F X : Nat → Int} {N : Int} : ∀ {t : rf_N} {i : Int}, rf_nd K R F X N t i → -1 ≤ i ∧ (i = -1 ∨ i < N)
  | .leaf, _, h => ⟨by rw [h]; exact Int.le_refl _, Or.inl h⟩
  | .inner j _ _ _ _, i, h => by
    have := h.1
    exact ⟨by omega, Or.inr (by omega)⟩
theorem rf_nd_nil {K R F X : Nat → Int} {N : Int} : ∀ {t : rf_N} {i : Int}, rf_nd K R F X N t i → i = -1 → t = .leaf
  | .leaf, _, _, _ => rfl
  | .inner j _ _ _ _, i, h, e => by
    have := h.1
    omega
theorem rf_nd_cons {K R F X : Nat → Int} {N : Int} : ∀ {t : rf_N} {i : Int}, rf_nd K R F X N t i → i ≠ -1 → ∃ f x, t = rf_n i.toNat (K i.toNat) (R i.toNat) f x ∧ 0 ≤ i ∧ i < N ∧ rf_nd K R F X N f (F i.toNat) ∧ rf_nd K R F X N x (X i.toNat)
  | .leaf, _, h, e => absurd h e
  | .inner j (k, r) _ f x, i, h, e => by
    obtain ⟨⟨h1, h2⟩, ⟨h3, h4⟩, h5, h6⟩ := h
    have e1 : i.toNat = j := by omega
    rw [e1]
    refine ⟨f, x, by rw [h3, h4], by omega, by omega, h5, h6⟩
def rf_snoc : rf_N → rf_N → rf_N
  | .leaf, p => p
  | .inner j k _ f x, p => .inner j k () f (rf_snoc x p)
def rf_last : rf_N → Nat → Nat
  | .leaf, d => d
  | .inner j _ _ _ x, _ => rf_last x j
theorem rf_last_mem : ∀ (t : rf_N) (d : Nat), t ≠ .leaf → rf_last t d ∈ rf_idx t
  | .leaf, _, h => absurd rfl h
  | .inner j k _ f .leaf, d, _ => List.mem_cons_self
  | .inner j k _ f (.inner j' k' u' f' x'), d, _ => by
    have := rf_last_mem (.inner j' k' u' f' x') j (fun h => by cases h)
    exact List.mem_cons_of_mem _ (List.mem_append_right _ this)
theorem rf_idx_snoc : ∀ (t p : rf_N) (j : Nat), j ∈ rf_idx (rf_snoc t p) ↔ j ∈ rf_idx t ∨ j ∈ rf_idx p
  | .leaf, p, j => by
    show j ∈ rf_idx p ↔ _
    exact ⟨Or.inr, fun h => h.elim (fun q => absurd q List.not_mem_nil) id⟩
  | .inner i k _ f x, p, j => by
    have := rf_idx_snoc x p j
    show j ∈ i :: (rf_idx f ++ rf_idx (rf_snoc x p)) ↔ j ∈ i :: (rf_idx f ++ rf_idx x) ∨ _
    simp only [List.mem_cons, List.mem_append, this]
    constructor
    · rintro (h | h | h | h)
      · exact Or.inl (Or.inl h)
      · exact Or.inl (Or.inr (Or.inl h))
      · exact Or.inl (Or.inr (Or.inr h))
      · exact Or.inr h
    · rintro ((h | h | h) | h)
      · exact Or.inl h
      · exact Or.inr (Or.inl h)
      · exact Or.inr (Or.inr (Or.inl h))
      · exact Or.inr (Or.inr (Or.inr h))
theorem rf_nodup_snoc : ∀ (t p : rf_N), (rf_idx t).Nodup → (rf_idx p).Nodup → (∀ j, j ∈ rf_idx t → j ∉ rf_idx p) → (rf_idx (rf_snoc t p)).Nodup
  | .leaf, p, _, h, _ => h
  | .inner i k _ f x, p, h, hp, hd => by
    have h1 : i ∉ rf_idx f ++ rf_idx x := (List.nodup_cons.mp h).1
    have h2 := (List.nodup_cons.mp h).2
    obtain ⟨h3, h4, h5⟩ := List.nodup_append.mp h2
    have ih := rf_nodup_snoc x p h4 hp (fun j hj => hd j (List.mem_cons_of_mem _ (List.mem_append_right _ hj)))
    refine List.nodup_cons.mpr ⟨fun q => ?_, List.nodup_append.mpr ⟨h3, ih, fun a ha b hb e => ?_⟩⟩
    · rcases List.mem_append.mp q with q | q
      · exact h1 (List.mem_append_left _ q)
      · rcases (rf_idx_snoc x p i).mp q with q | q
        · exact h1 (List.mem_append_right _ q)
        · exact hd i List.mem_cons_self q
    · subst e
      rcases (rf_idx_snoc x p a).mp hb with q | q
      · exact h5 a ha a q rfl
      · exact hd a (List.mem_cons_of_mem _ (List.mem_append_left _ ha)) q
/-- a part put behind the last -/
theorem rf_nd_snoc {K R F X X' : Nat → Int} {N p : Int} {tp : rf_N} (hp : rf_nd K R F X' N tp p) : ∀ {t : rf_N} {i : Int} {d : Nat}, t ≠ .leaf → (rf_idx t).Nodup → (∀ j, j ≠ rf_last t d → X' j = X j) → X' (rf_last t d) = p → rf_nd K R F X N t i → rf_nd K R F X' N (rf_snoc t tp) i
  | .leaf, _, _, h, _, _, _, _ => absurd rfl h
  | .inner j k _ f .leaf, i, d, _, hn, hX, hl, h => by
    obtain ⟨h1, h2, h3, h4⟩ := h
    have hj : j ∉ rf_idx f := fun q => (List.nodup_cons.mp hn).1 (List.mem_append_left _ q)
    refine ⟨h1, h2, rf_nd_mono (Int.le_refl _) (fun q hq => ⟨rfl, rfl, rfl, hX q (fun e => hj (by have e1 : q = j := e; rw [← e1]; exact hq))⟩) h3, ?_⟩
    have hl' : X' j = p := hl
    rw [hl']
    exact hp
  | .inner j k _ f (.inner j' k' u' f' x'), i, d, _, hn, hX, hl, h => by
    obtain ⟨h1, h2, h3, h4⟩ := h
    obtain ⟨n1, n2⟩ := List.nodup_cons.mp hn
    obtain ⟨n3, n4, n5⟩ := List.nodup_append.mp n2
    have hm := rf_last_mem (.inner j' k' u' f' x') j (fun h => by cases h)
    refine ⟨h1, h2, rf_nd_mono (Int.le_refl _) (fun q hq => ⟨rfl, rfl, rfl, hX q (fun e => n5 q hq _ hm e)⟩) h3, ?_⟩
    have hX' : X' j = X j := hX j (fun e => n1 (e ▸ List.mem_append_right _ hm))
    rw [hX']
    exact rf_nd_snoc hp (t := .inner j' k' u' f' x') (d := j) (fun h => by cases h) n4 hX hl h4
/-! typed trees: one node, and a row of ARGs; H: the type of a head (or of a LAM's variable), P: what is said of what is left -/
def rf_gt (H : Nat → Int → Int → rf_T → Prop) (P : Nat → rf_T → Prop) : rf_N → (rf_T → Prop) × (rf_T → rf_T → Prop)
  | .leaf => (fun _ => False, fun u t => u = t)
  | .inner j k _ f x => (fun t => (k.1 = 0 ∧ ∃ A B, t = rf_a A B ∧ H j k.1 k.2 A ∧ (rf_gt H P f).1 B) ∨ (k.1 ≠ 0 ∧ ∃ u, H j k.1 k.2 u ∧ (rf_gt H P f).2 u t ∧ P j t), fun u t => ∃ A B, u = rf_a A B ∧ ((k.1 = 0 ∧ ∃ A' B', A = rf_a A' B' ∧ H j k.1 k.2 A' ∧ (rf_gt H P f).1 B') ∨ (k.1 ≠ 0 ∧ ∃ u, H j k.1 k.2 u ∧ (rf_gt H P f).2 u A ∧ P j A)) ∧ (rf_gt H P x).2 B t)
theorem rf_gt_2 {H : Nat → Int → Int → rf_T → Prop} {P : Nat → rf_T → Prop} {j : Nat} {k r : Int} {f x : rf_N} {u t : rf_T} : (rf_gt H P (rf_n j k r f x)).2 u t ↔ ∃ A B, u = rf_a A B ∧ (rf_gt H P (rf_n j k r f x)).1 A ∧ (rf_gt H P x).2 B t := Iff.rfl
theorem rf_gt_mono {H H' : Nat → Int → Int → rf_T → Prop} {P P' : Nat → rf_T → Prop} : ∀ {n : rf_N}, (∀ j ∈ rf_idx n, (∀ k r u, H j k r u → H' j k r u) ∧ ∀ t, P j t → P' j t) → (∀ t, (rf_gt H P n).1 t → (rf_gt H' P' n).1 t) ∧ (∀ u t, (rf_gt H P n).2 u t → (rf_gt H' P' n).2 u t)
  | .leaf, _ => ⟨fun _ h => h, fun _ _ h => h⟩
  | .inner j k v f x, hM => by
    have hf := rf_gt_mono (n := f) (fun q hq => hM q (List.mem_cons_of_mem _ (List.mem_append_left _ hq)))
    have hx := rf_gt_mono (n := x) (fun q hq => hM q (List.mem_cons_of_mem _ (List.mem_append_right _ hq)))
    have hj := hM j List.mem_cons_self
    have h1 : ∀ t, (rf_gt H P (.inner j k v f x)).1 t → (rf_gt H' P' (.inner j k v f x)).1 t := by
      rintro t (⟨e, A, B, q1, q2, q3⟩ | ⟨e, u, q1, q2, q3⟩)
      · exact Or.inl ⟨e, A, B, q1, hj.1 _ _ _ q2, hf.1 _ q3⟩
      · exact Or.inr ⟨e, u, hj.1 _ _ _ q1, hf.2 _ _ q2, hj.2 _ q3⟩
    refine ⟨h1, ?_⟩
    rintro u t ⟨A, B, q1, q2, q3⟩
    exact ⟨A, B, q1, h1 A q2, hx.2 _ _ q3⟩
theorem rf_gt_snoc {H : Nat → Int → Int → rf_T → Prop} {P : Nat → rf_T → Prop} {p : rf_N} : ∀ {n : rf_N} {u v t : rf_T}, (rf_gt H P n).2 u v → (rf_gt H P p).2 v t → (rf_gt H P (rf_snoc n p)).2 u t
  | .leaf, u, v, t, h, g => by
    have e : u = v := h
    rw [e]
    exact g
  | .inner j k _ f x, u, v, t, h, g => by
    obtain ⟨A, B, h1, h2, h3⟩ := h
    exact ⟨A, B, h1, h2, rf_gt_snoc h3 g⟩
/-- which unknowns stand in it -/
def rf_oc : rf_N → (Int → Prop) × (Int → Prop)
  | .leaf => (fun _ => False, fun _ => False)
  | .inner _ k _ f x => (fun m => (k.1 = 3 ∧ m = k.2) ∨ (k.1 = 0 ∧ (rf_oc f).1 m) ∨ ((k.1 = 1 ∨ k.1 = 2) ∧ (rf_oc f).2 m), fun m => ((k.1 = 3 ∧ m = k.2) ∨ (k.1 = 0 ∧ (rf_oc f).1 m) ∨ ((k.1 = 1 ∨ k.1 = 2) ∧ (rf_oc f).2 m)) ∨ (rf_oc x).2 m)
/-- its height: an unknown counts 5 -/
def rf_wh : rf_N → Nat × Nat
  | .leaf => (0, 0)
  | .inner _ k _ f x => (if k.1 = 3 then 5 else if k.1 = 0 then 1 + (rf_wh f).1 else 1 + (rf_wh f).2, max (if k.1 = 3 then 5 else if k.1 = 0 then 1 + (rf_wh f).1 else 1 + (rf_wh f).2) (rf_wh x).2)
theorem rf_oc_snoc (p : rf_N) (m : Int) : ∀ n : rf_N, (rf_oc (rf_snoc n p)).2 m ↔ (rf_oc n).2 m ∨ (rf_oc p).2 m
  | .leaf => ⟨Or.inr, fun h => h.elim (fun q => q.elim) id⟩
  | .inner j k _ f x => by
    have := rf_oc_snoc p m x
    show _ ∨ (rf_oc (rf_snoc x p)).2 m ↔ (_ ∨ (rf_oc x).2 m) ∨ _
    rw [this]
    exact (or_assoc).symm
theorem rf_wh_snoc (p : rf_N) : ∀ n : rf_N, (rf_wh (rf_snoc n p)).2 = max (rf_wh n).2 (rf_wh p).2
  | .leaf => (Nat.zero_max _).symm
  | .inner j k _ f x => by
    have := rf_wh_snoc p x
    show max _ (rf_wh (rf_snoc x p)).2 = max (max _ (rf_wh x).2) _
    rw [this, Nat.max_assoc]
/-! ways from unknown to unknown -/
abbrev rf_rc (E : Int → Int → Prop) : Int → Int → Prop := Relation.TransGen E
theorem rf_rc_trans {E : Int → Int → Prop} {a b c : Int} (h1 : rf_rc E a b) (h2 : rf_rc E b c) : rf_rc E a c := by
  induction h2 with
  | single h => exact .tail h1 h
  | tail _ h ih => exact .tail ih h
theorem rf_rc_mono {E E' : Int → Int → Prop} (h : ∀ a b, E a b → E' a b) {a b : Int} (h1 : rf_rc E a b) : rf_rc E' a b := by
  induction h1 with
  | single q => exact .single (h _ _ q)
  | tail _ q ih => exact .tail ih (h _ _ q)
/-- no way out of m: no way from m on -/
theorem rf_rc_out {E : Int → Int → Prop} {m : Int} (hm : ∀ b, ¬ E m b) {b : Int} (h : rf_rc E m b) : False := by
  induction h with
  | single q => exact hm _ q
  | tail _ _ ih => exact ih
theorem rf_rc_add {E E' : Int → Int → Prop} {m : Int} {S : Int → Prop} (hE : ∀ a b, E' a b → E a b ∨ (a = m ∧ S b)) (hS : ∀ b, S b → b ≠ m ∧ ¬ rf_rc E b m) {a b : Int} (h : rf_rc E' a b) : rf_rc E a b ∨ ((a = m ∨ rf_rc E a m) ∧ ∃ c, S c ∧ (b = c ∨ rf_rc E c b)) := by
  induction h with
  | single q =>
    rcases hE _ _ q with q | ⟨q1, q2⟩
    · exact Or.inl (.single q)
    · exact Or.inr ⟨Or.inl q1, _, q2, Or.inl rfl⟩
  | tail _ q ih =>
    rcases hE _ _ q with q | ⟨q1, q2⟩
    · rcases ih with ih | ⟨i1, c, i2, i3⟩
      · exact Or.inl (.tail ih q)
      · refine Or.inr ⟨i1, c, i2, Or.inr ?_⟩
        rcases i3 with rfl | i3
        · exact .single q
        · exact .tail i3 q
    · subst q1
      rcases ih with ih | ⟨i1, c, i2, i3⟩
      · exact Or.inr ⟨Or.inr ih, _, q2, Or.inl rfl⟩
      · rcases i3 with i3 | i3
        · exact absurd i3.symm (hS c i2).1
        · exact absurd i3 (hS c i2).2
theorem rf_rc_acy {E E' : Int → Int → Prop} {m : Int} {S : Int → Prop} (hE : ∀ a b, E' a b → E a b ∨ (a = m ∧ S b)) (hS : ∀ b, S b → b ≠ m ∧ ¬ rf_rc E b m) (hA : ∀ a, ¬ rf_rc E a a) (a : Int) : ¬ rf_rc E' a a := by
  intro h
  rcases rf_rc_add hE hS h with h | ⟨h1, c, h2, h3⟩
  · exact hA a h
  · have hc := hS c h2
    rcases h1 with rfl | h1
    · rcases h3 with h3 | h3
      · exact hc.1 h3.symm
      · exact hc.2 h3
    · rcases h3 with rfl | h3
      · exact hc.2 h1
      · exact hc.2 (rf_rc_trans h3 h1)
/-- ways to m0 do not come from edges to a new unknown -/
theorem rf_rc_keep {E E' : Int → Int → Prop} {m h m0 : Int} (hE : ∀ a b, E' a b → E a b ∨ (a = m ∧ b = h)) (hh : ∀ b, ¬ E h b) (hm : h ≠ m) (h0 : h ≠ m0) {a : Int} (q : rf_rc E' a m0) : rf_rc E a m0 := by
  rcases rf_rc_add (S := fun b => b = h) hE (fun b e => by subst e; exact ⟨hm, fun z => rf_rc_out hh z⟩) q with q | ⟨_, c, rfl, q⟩
  · exact q
  · rcases q with q | q
    · exact absurd q.symm h0
    · exact (rf_rc_out hh q).elim
/-! sums -/
def rf_sum (f : Nat → Nat) : Nat → Nat
  | 0 => 0
  | n + 1 => rf_sum f n + f n
def rf_lsum (f : Nat → Nat) : List Nat → Nat
  | [] => 0
  | x :: l => f x + rf_lsum f l
theorem rf_lsum_erase (f : Nat → Nat) {x : Nat} : ∀ {l : List Nat}, x ∈ l → rf_lsum f l = f x + rf_lsum f (l.erase x)
  | [], h => absurd h List.not_mem_nil
  | y :: l, h => by
    by_cases e : y = x
    · subst e
      rw [List.erase_cons_head]
      rfl
    · rw [List.erase_cons_tail (by simpa using e)]
      have := rf_lsum_erase f (l := l) ((List.mem_cons.mp h).resolve_left (fun q => e q.symm))
      show f y + rf_lsum f l = f x + (f y + rf_lsum f (l.erase x))
      omega
theorem rf_lsum_le (f : Nat → Nat) : ∀ (n : Nat) (l : List Nat), l.Nodup → (∀ x ∈ l, x < n) → rf_lsum f l ≤ rf_sum f n
  | 0, [], _, _ => Nat.le_refl _
  | 0, x :: l, _, h => absurd (h x List.mem_cons_self) (Nat.not_lt_zero _)
  | n + 1, l, hn, h => by
    unfold rf_sum
    by_cases e : n ∈ l
    · rw [rf_lsum_erase f e]
      have := rf_lsum_le f n (l.erase n) (hn.erase n) (fun x hx => by
        have h1 := h x (List.mem_of_mem_erase hx)
        have h2 : x ≠ n := fun q => by
          subst q
          exact (List.Nodup.not_mem_erase hn) hx
        omega)
      omega
    · have := rf_lsum_le f n l hn (fun x hx => by
        have h1 := h x hx
        have h2 : x ≠ n := fun q => e (q ▸ hx)
        omega)
      omega
theorem rf_sum_congr {f g : Nat → Nat} : ∀ {n : Nat}, (∀ j, j < n → f j = g j) → rf_sum f n = rf_sum g n
  | 0, _ => rfl
  | n + 1, h => by
    unfold rf_sum
    rw [rf_sum_congr (fun j hj => h j (by omega)), h n (by omega)]
theorem rf_sum_upd {f g : Nat → Nat} {x : Nat} : ∀ {n : Nat}, x < n → (∀ j, j ≠ x → f j = g j) → rf_sum f n + g x = rf_sum g n + f x
  | 0, h, _ => absurd h (Nat.not_lt_zero _)
  | n + 1, h, hq => by
    unfold rf_sum
    by_cases e : x = n
    · subst e
      rw [rf_sum_congr (fun j hj => hq j (by omega))]
      omega
    · have := rf_sum_upd (n := n) (by omega) hq
      have := hq n (fun q => e q.symm)
      omega
/-! what names do to typed variables -/
def rf_bd (b : Int) : rf_Y → Prop
  | .leaf => True
  | .inner 0 k _ _ r => (k.1 < b ∧ 0 ≤ k.2 ∧ k.2 < b) ∧ rf_bd b r
  | .inner (_ + 1) _ _ a r => rf_bd b a ∧ rf_bd b r
theorem rf_bd_mono {b b' : Int} (h : b ≤ b') : ∀ {y : rf_Y}, rf_bd b y → rf_bd b' y
  | .leaf, _ => trivial
  | .inner 0 k _ _ r, q => ⟨⟨by have := q.1.1; omega, q.1.2.1, by have := q.1.2.2; omega⟩, rf_bd_mono h q.2⟩
  | .inner (_ + 1) _ _ a r, q => ⟨rf_bd_mono h q.1, rf_bd_mono h q.2⟩
theorem rf_look_ge {b v : Int} (h : b ≤ v) : ∀ {y : rf_Y}, rf_bd b y → rf_look y v = v
  | .leaf, _ => rfl
  | .inner 0 k _ _ r, q => by
    have e : k.1 ≠ v := by have := q.1.1; omega
    show (if k.1 = v then k.2 else rf_look r v) = v
    rw [if_neg e]
    exact rf_look_ge h q.2
  | .inner (_ + 1) _ _ a r, q => by
    show rf_look r (rf_look a v) = v
    rw [rf_look_ge h q.1]
    exact rf_look_ge h q.2
/-- the variables below b, with their types -/
def rf_V (ty : Int → rf_T → Prop) (b : Int) (v : Int) (t : rf_T) : Prop := (0 ≤ v ∧ v < b) ∧ ty v t
def rf_ok (V N : Int → rf_T → Prop) (y : rf_Y) : Prop := ∀ v t, V v t ∨ N v t → V (rf_look y v) t
theorem rf_ok_ext {ty ty' : Int → rf_T → Prop} {b b' : Int} {N : Int → rf_T → Prop} {y : rf_Y} (h : rf_ok (rf_V ty b) N y) (hb : rf_bd b y) (he : ∀ v t, 0 ≤ v → v < b → (ty' v t ↔ ty v t)) (hbb : b ≤ b') : rf_ok (rf_V ty' b') N y := by
  have up : ∀ v t, rf_V ty b v t → rf_V ty' b' v t := fun v t q => ⟨⟨q.1.1, by have := q.1.2; omega⟩, (he v t q.1.1 q.1.2).mpr q.2⟩
  rintro v t (q | q)
  · by_cases c : v < b
    · exact up _ _ (h v t (Or.inl ⟨⟨q.1.1, c⟩, (he v t q.1.1 c).mp q.2⟩))
    · rw [rf_look_ge (by omega) hb]
      exact q
  · exact up _ _ (h v t (Or.inr q))
theorem rf_ok_nil {V : Int → rf_T → Prop} : rf_ok V (fun _ _ => False) .leaf := by
  rintro v t (q | q)
  · exact q
  · exact q.elim
/-- a name before the others -/
theorem rf_ok_one {V N : Int → rf_T → Prop} {y : rf_Y} {f t : Int} (h : rf_ok V N y) (he : ∀ u, V f u ∨ N f u → V t u) : rf_ok V N (rf_one f t y) := by
  intro v u q
  show V (if f = v then t else rf_look y v) u
  by_cases e : f = v
  · subst e
    rw [if_pos rfl]
    exact he u q
  · rw [if_neg e]
    exact h v u q
/-- a row of names, the latest before the others -/
def rf_row (f t : Nat → Int) : Nat → rf_Y
  | 0 => .leaf
  | n + 1 => rf_one (f n) (t n) (rf_row f t n)
theorem rf_row_ok {V N : Int → rf_T → Prop} {f t : Nat → Int} : ∀ {n : Nat}, (∀ k, k < n → ∀ u, V (f k) u ∨ N (f k) u → V (t k) u) → (∀ v u, N v u → ∃ k, k < n ∧ v = f k) → rf_ok V N (rf_row f t n)
  | n, hE, hN => by
    have key : ∀ m, m ≤ n → ∀ v u, (V v u ∨ (N v u ∧ ∃ k, k < m ∧ v = f k)) → V (rf_look (rf_row f t m) v) u := by
      intro m
      induction m with
      | zero =>
        rintro _ v u (q | ⟨_, k, hk, _⟩)
        · exact q
        · omega
      | succ m ih =>
        intro hm v u q
        show V (if f m = v then t m else rf_look (rf_row f t m) v) u
        by_cases e : f m = v
        · subst e
          rw [if_pos rfl]
          exact hE m (by omega) u (q.elim Or.inl (fun z => Or.inr z.1))
        · rw [if_neg e]
          refine ih (by omega) v u (q.elim Or.inl (fun z => Or.inr ⟨z.1, ?_⟩))
          obtain ⟨_, k, hk, hv⟩ := z
          refine ⟨k, ?_, hv⟩
          have : k ≠ m := fun c => e (by rw [← c]; exact hv.symm)
          omega
    intro v u q
    refine key n (Nat.le_refl _) v u (q.elim Or.inl (fun z => Or.inr ⟨z, hN v u z⟩))
theorem rf_row_bd {f t : Nat → Int} {b : Int} : ∀ {n : Nat}, (∀ k, k < n → f k < b ∧ 0 ≤ t k ∧ t k < b) → rf_bd b (rf_row f t n)
  | 0, _ => trivial
  | n + 1, h => ⟨h n (by omega), rf_row_bd (fun k hk => h k (by omega))⟩
theorem rf_row_dp {f t : Nat → Int} : ∀ n : Nat, rf_dp (rf_row f t n) = 0
  | 0 => rfl
  | n + 1 => rf_row_dp n
end
section
/-! ===== the reference: bytes, words, tokens ===== -/
def rf_tk (A : Nat → Int) (n : Nat) : Prop := ∀ j : Nat, j < n → A j ≠ 7 ∧ A j ≠ 8
def rf_te (A : Nat → Int) (T : Int) : Prop := 0 ≤ T ∧ T ≤ 240 ∧ rf_tk A T.toNat ∧ (A T.toNat = 7 ∨ A T.toNat = 8)
def rf_f (W : List Nat) (s t : sx_S) : Prop := ∀ k, W.contains k = false → t.1 66 k = s.1 66 k
end
section
/-! ===== the reference: taking tokens, types ===== -/
theorem rf_f_refl (W : List Nat) (s : sx_S) : rf_f W s s := fun _ _ => rfl
theorem rf_f_uf {W : List Nat} {s : sx_S} {F : Nat → Nat → Int} {B : (Nat → Nat → Int) × (Nat → Nat → Int) × Nat} {k : Nat} {v : Int} (hk : W.contains k = true) (h : rf_f W s (F, B)) : rf_f W s (sx_uf F 66 k v, B) := by
  intro j hj
  show sx_uf F 66 k v 66 j = _
  rw [sx_uf_if, if_neg]
  · exact h j hj
  · rintro ⟨_, e⟩
    subst e
    rw [hk] at hj
    cases hj
theorem rf_f_step {V W : List Nat} {s t u : sx_S} (h2 : rf_f V t u) (hV : V.all W.contains = true) (h1 : rf_f W s t) : rf_f W s u := by
  intro k hk
  rw [h2 k ?_, h1 k hk]
  cases hc : V.contains k with
  | false => rfl
  | true =>
    have := List.all_eq_true.mp hV k (List.contains_iff_mem.mp hc)
    rw [hk] at this
    cases this
theorem rf_f_ua {W : List Nat} {s : sx_S} {F A : Nat → Nat → Int} {B : (Nat → Nat → Int) × Nat} {p k : Nat} {v : Int} (h : rf_f W s (F, A, B)) : rf_f W s (F, sx_ua A p k v, B) := h
theorem rf_f_F {V : List (Nat × Nat)} {W : List Nat} {s t u : sx_S} (h2 : cx_F V t u) (hV : cx_outb V 66 = true) (h1 : rf_f W s t) : rf_f W s u := by
  intro k hk
  rw [(h2.same 66 hV).1, h1 k hk]
def rf_A (T : Int) (s : sx_S) : Prop := True → rf_te (s.2.1 69) T
theorem rf_A_at {T : Int} {s : sx_S} (h : rf_A T s) : s.1 66 7 = T → s.2.1 69 (s.1 66 7).toNat = 7 ∨ s.2.1 69 (s.1 66 7).toNat = 8 := fun e => by
  rw [e]
  exact (h trivial).2.2.2
theorem rf_A_T {T : Int} {s : sx_S} (h : rf_A T s) : 0 ≤ T ∧ T ≤ 240 := ⟨(h trivial).1, (h trivial).2.1⟩
theorem rf_A_uf {T : Int} {F : Nat → Nat → Int} {B : (Nat → Nat → Int) × (Nat → Nat → Int) × Nat} {p k : Nat} {v : Int} (h : rf_A T (F, B)) : rf_A T (sx_uf F p k v, B) := h
theorem rf_A_ua {T : Int} {F A : Nat → Nat → Int} {B : (Nat → Nat → Int) × Nat} {p k : Nat} {v : Int} (hp : Nat.beq p 69 = false) (h : rf_A T (F, A, B)) : rf_A T (F, sx_ua A p k v, B) := by
  intro q
  show rf_te (sx_ua A p k v 69) T
  rw [sx_ua_ne (fun z => by rw [← z] at hp; exact absurd hp (by decide))]
  exact h q
theorem rf_A_F {V : List (Nat × Nat)} {T : Int} {s t : sx_S} (hF : cx_F V s t) (hV : cx_outb V 69 = true) (h : rf_A T s) : rf_A T t := by
  intro q
  rw [(hF.same 69 hV).2]
  exact h q
end
section
/-! ===== the reference: types ===== -/
def rf_is (s : sx_S) (x : rf_T) (t : Int) : Prop := rf_ty (s.2.1 72) (s.2.1 73) (s.1 66 9) x t
def rf_tu (s t : sx_S) : Prop := ∀ j : Nat, s.1 66 9 ≤ t.1 66 9 ∧ ((j : Int) < s.1 66 9 → t.2.1 72 j = s.2.1 72 j ∧ t.2.1 73 j = s.2.1 73 j)
theorem rf_is_up {s t : sx_S} {x : rf_T} {z : Int} (h : rf_is s x z) (hu : rf_tu s t) : rf_is t x z := rf_ty_mono (fun j => (hu j).2) (hu 0).1 h
theorem rf_tu_refl (s : sx_S) : rf_tu s s := fun _ => ⟨Int.le_refl _, fun _ => ⟨rfl, rfl⟩⟩
theorem rf_tu_trans {s t u : sx_S} (h2 : rf_tu t u) (h1 : rf_tu s t) : rf_tu s u := fun j => ⟨Int.le_trans (h1 j).1 (h2 j).1, fun hj => by
  obtain ⟨a1, a2⟩ := (h1 j).2 hj
  obtain ⟨b1, b2⟩ := (h2 j).2 (Int.lt_of_lt_of_le hj (h1 j).1)
  exact ⟨b1.trans a1, b2.trans a2⟩⟩
/-- nothing of the types was touched -/
theorem rf_tu_F {V : List (Nat × Nat)} {W : List Nat} {s t u : sx_S} (hF : cx_F V t u) (h72 : cx_outb V 72 = true) (h73 : cx_outb V 73 = true) (hf : rf_f W t u) (h9 : W.contains 9 = false) (h : rf_tu s t) : rf_tu s u := rf_tu_trans (fun j => ⟨Int.le_of_eq (hf 9 h9).symm, fun _ => ⟨by rw [(hF.same 72 h72).2], by rw [(hF.same 73 h73).2]⟩⟩) h
theorem rf_tu_uf {s : sx_S} {F : Nat → Nat → Int} {B : (Nat → Nat → Int) × (Nat → Nat → Int) × Nat} {k : Nat} {v : Int} (hk : Nat.beq k 9 = false) (h : rf_tu s (F, B)) : rf_tu s (sx_uf F 66 k v, B) := by
  have e : sx_uf F 66 k v 66 9 = F 66 9 := by
    rw [sx_uf_if]
    refine if_neg (fun q => ?_)
    rw [← q.2] at hk
    exact absurd hk (by decide)
  intro j
  refine ⟨?_, (h j).2⟩
  show _ ≤ sx_uf F 66 k v 66 9
  rw [e]
  exact (h j).1
theorem rf_arrow {s t : sx_S} {a b : Int} (h0 : 0 ≤ s.1 66 9) (e0 : t.1 66 9 = s.1 66 9 + 1) (e1 : t.2.1 72 = fun j => if j = (s.1 66 9).toNat then a else s.2.1 72 j) (e2 : t.2.1 73 = fun j => if j = (s.1 66 9).toNat then b else s.2.1 73 j) : rf_tu s t ∧ ∀ x y, 2 ≤ s.1 66 9 → rf_is s x a → rf_is s y b → rf_is t (rf_a x y) (s.1 66 9) := by
  have hu : rf_tu s t := by
    refine fun j => ⟨by omega, fun hj => ?_⟩
    rw [e1, e2]
    dsimp only
    rw [if_neg (by omega), if_neg (by omega)]
    exact ⟨rfl, rfl⟩
  refine ⟨hu, fun x y h2 hx hy => ⟨⟨rfl, h2, by omega⟩, ?_, ?_⟩⟩
  · have q := rf_is_up hx hu
    rw [e1]
    dsimp only
    rw [if_pos rfl, ← e1]
    exact q
  · have q := rf_is_up hy hu
    rw [e2]
    dsimp only
    rw [if_pos rfl, ← e2]
    exact q
def rf_ar (s t : sx_S) (a b z : Int) : Prop := ∀ x y, 2 ≤ s.1 66 9 → rf_is s x a → rf_is s y b → rf_is t (rf_a x y) z
theorem rf_tu_mk {s : sx_S} {B : (Nat → Nat → Int) × Nat} {w n m a b : Int} (h0 : 0 ≤ s.1 66 9) (hw : w = s.1 66 9 + 1) (h1 : n = s.1 66 9) (h2 : m = s.1 66 9) : rf_tu s (sx_uf s.1 66 9 w, sx_ua (sx_ua s.2.1 72 n.toNat a) 73 m.toNat b, B) := by
  subst h1 h2
  refine (rf_arrow (a := a) (b := b) h0 ?_ ?_ ?_).1
  · show sx_uf s.1 66 9 w 66 9 = _
    rw [sx_uf_if, if_pos ⟨rfl, rfl⟩]
    exact hw
  · show sx_ua (sx_ua s.2.1 72 (s.1 66 9).toNat a) 73 (s.1 66 9).toNat b 72 = _
    rw [sx_ua_ne (by decide), sx_ua_same]
  · show sx_ua (sx_ua s.2.1 72 (s.1 66 9).toNat a) 73 (s.1 66 9).toNat b 73 = _
    rw [sx_ua_same, sx_ua_ne (by decide)]
theorem rf_ar_mk {s : sx_S} {B : (Nat → Nat → Int) × Nat} {w n m z a b : Int} (h0 : 0 ≤ s.1 66 9) (hw : w = s.1 66 9 + 1) (h1 : n = s.1 66 9) (h2 : m = s.1 66 9) (hz : z = s.1 66 9) : rf_ar s (sx_uf s.1 66 9 w, sx_ua (sx_ua s.2.1 72 n.toNat a) 73 m.toNat b, B) a b z := by
  subst h1 h2 hz
  refine (rf_arrow h0 ?_ ?_ ?_).2
  · show sx_uf s.1 66 9 w 66 9 = _
    rw [sx_uf_if, if_pos ⟨rfl, rfl⟩]
    exact hw
  · show sx_ua (sx_ua s.2.1 72 (s.1 66 9).toNat a) 73 (s.1 66 9).toNat b 72 = _
    rw [sx_ua_ne (by decide), sx_ua_same]
  · show sx_ua (sx_ua s.2.1 72 (s.1 66 9).toNat a) 73 (s.1 66 9).toNat b 73 = _
    rw [sx_ua_same, sx_ua_ne (by decide)]
end
section
/-! ===== the reference: a part is put behind the last one (read nodes, nodes) ===== -/
def rf_len : rf_N → Nat
  | .leaf => 0
  | .inner _ _ _ _ x => rf_len x + 1
theorem rf_last_d {t : rf_N} (d e : Nat) (h : t ≠ .leaf) : rf_last t d = rf_last t e := by
  cases t with
  | leaf => exact absurd rfl h
  | inner j k u f x => rfl

theorem w_r_add {CALL : sx_Ca} {sL : Nat} {sx : Nat → Int32} {Q : Nat → sx_L → sx_S → Prop} {R : Int → sx_S → Prop} {s : sx_S} {a0 a1 : Int} {f : rf_N} (hI : cx_I s) (p0 : 0 ≤ a0 ∧ a0 ≤ 599) (p1 : -1 ≤ a1 ∧ a1 ≤ 599) (hf : rf_nd (s.2.1 74) (s.2.1 75) (s.2.1 80) (s.2.1 81) (s.1 66 12) f (s.2.1 80 a0.toNat)) (hK1 : f = .leaf → R 0 (s.1, sx_ua s.2.1 80 a0.toNat a1, s.2.2)) (hK2 : ∀ l : Nat, f ≠ .leaf → l = rf_last f 0 → R 0 (s.1, sx_ua s.2.1 81 l a1, s.2.2)) (hQ : ∀ (x3 : Int) (g : rf_N), rf_nd (s.2.1 74) (s.2.1 75) (s.2.1 80) (s.2.1 81) (s.1 66 12) g x3 → g ≠ .leaf → rf_last g 0 = rf_last f 0 → f ≠ .leaf → Q 25 [(0, .inr (.inl 66)), (2, .inl a1), (3, .inl x3)] s) : sx_wp true sL sx eX12_add CALL [(25, [0, 2, 3])] Q R 400 0 (sx_argsF 0 [.inr (.inl 66), .inl a0, .inl a1]) [] s := by
  have hr := rf_nd_rng hf
  have hN := hI.fld 66 12 (by decide) rfl
  have hn : s.2.1 80 a0.toNat = -1 → f = .leaf := rf_nd_nil hf
  have hc : s.2.1 80 a0.toNat ≠ -1 → f ≠ .leaf := fun h e => by
    rw [e] at hf
    exact h hf
  repeat' (first | (with_reducible intro _) | (refine And.intro ?_ ?_) | (refine hK1 ?_) | (refine hQ _ f ?_ ?_ rfl ?_))
  all_goals (try dsimp only)
  all_goals (first | trivial | omega | (dsimp only at *; omega) | assumption | (subst_vars; assumption) | (subst_vars; exact hn (by omega)) | (subst_vars; exact hc (by omega)))
theorem w_r_add_25 {CALL : sx_Ca} {sL : Nat} {sx : Nat → Int32} {Q : Nat → sx_L → sx_S → Prop} {R : Int → sx_S → Prop} {s : sx_S} {a0 a1 : Int} {f : rf_N} (hI : cx_I s) (p0 : 0 ≤ a0 ∧ a0 ≤ 599) (p1 : -1 ≤ a1 ∧ a1 ≤ 599) (hf : rf_nd (s.2.1 74) (s.2.1 75) (s.2.1 80) (s.2.1 81) (s.1 66 12) f (s.2.1 80 a0.toNat)) (hK1 : f = .leaf → R 0 (s.1, sx_ua s.2.1 80 a0.toNat a1, s.2.2)) (hK2 : ∀ l : Nat, f ≠ .leaf → l = rf_last f 0 → R 0 (s.1, sx_ua s.2.1 81 l a1, s.2.2)) (hfl : f ≠ .leaf) {x3 : Int} {g : rf_N} {mm : Nat} (hm : mm = rf_len g) (hg : rf_nd (s.2.1 74) (s.2.1 75) (s.2.1 80) (s.2.1 81) (s.1 66 12) g x3) (hgl : g ≠ .leaf) (hgf : rf_last g 0 = rf_last f 0) (hQ : ∀ (x3 : Int) (g : rf_N), rf_nd (s.2.1 74) (s.2.1 75) (s.2.1 80) (s.2.1 81) (s.1 66 12) g x3 → g ≠ .leaf → rf_last g 0 = rf_last f 0 → f ≠ .leaf → rf_len g < mm → Q 25 [(0, .inr (.inl 66)), (2, .inl a1), (3, .inl x3)] s) : sx_wp true sL sx eX12_add CALL [(25, [0, 2, 3])] Q R 400 25 [(0, .inr (.inl 66)), (2, .inl a1), (3, .inl x3)] [] s := by
  have hN := hI.fld 66 12 (by decide) rfl
  obtain ⟨g1, g2, rfl, h0, h1, hg1, hg2⟩ := rf_nd_cons hg (fun e => hgl (rf_nd_nil hg e))
  have hr := rf_nd_rng hg2
  have hn : s.2.1 81 x3.toNat = -1 → g2 = .leaf := rf_nd_nil hg2
  have hc : s.2.1 81 x3.toNat ≠ -1 → g2 ≠ .leaf := fun h e => by
    rw [e] at hg2
    exact h hg2
  have hl : g2 ≠ .leaf → rf_last g2 0 = rf_last f 0 := fun h => by
    rw [← hgf]
    exact rf_last_d _ _ h
  have hl0 : g2 = .leaf → x3.toNat = rf_last f 0 := fun h => by
    rw [← hgf, h]
    rfl
  have hlen : rf_len g2 < mm := by
    rw [hm]
    exact Nat.lt_succ_self _
  repeat' (first | (with_reducible intro _) | (refine And.intro ?_ ?_) | (refine hK2 _ ?_ ?_) | (refine hQ _ g2 ?_ ?_ ?_ hfl hlen))
  all_goals (try dsimp only)
  all_goals (first | trivial | omega | (dsimp only at *; omega) | assumption | (subst_vars; assumption) | (subst_vars; exact hc (by omega)) | (subst_vars; exact hl (hc (by omega))) | (subst_vars; exact hl0 (hn (by omega))))
theorem c_r_add {sL : Nat} {sx : Nat → Int32} (hsL : sL ≤ 3072) (d : Nat) (hd : 2 ≤ d) : ∀ (a0 a1 : Int) (f : rf_N) (s : sx_S) (K : Int → sx_S → Prop), cx_I s → (0 ≤ a0 ∧ a0 ≤ 599) → (-1 ≤ a1 ∧ a1 ≤ 599) → rf_nd (s.2.1 74) (s.2.1 75) (s.2.1 80) (s.2.1 81) (s.1 66 12) f (s.2.1 80 a0.toNat) → (f = .leaf → K 0 (s.1, sx_ua s.2.1 80 a0.toNat a1, s.2.2)) → (∀ l : Nat, f ≠ .leaf → l = rf_last f 0 → K 0 (s.1, sx_ua s.2.1 81 l a1, s.2.2)) → sx_C sL sx d 162 [.inr (.inl 66), .inl a0, .inl a1] s K := by
  intro a0 a1 f s K hI p0 p1 hf hK1 hK2
  obtain ⟨d, rfl⟩ : ∃ e, d = e + 2 := ⟨d - 2, by omega⟩
  · refine sx_methL (wr := true) (n := 400) (n' := 400) (stop := [(25, [0, 2, 3])]) (fun n pc ls u => (pc = 25 ∧ ∃ (x3 : Int) (g : rf_N), ls = [(0, .inr (.inl 66)), (2, .inl a1), (3, .inl x3)] ∧ u = s ∧ rf_nd (s.2.1 74) (s.2.1 75) (s.2.1 80) (s.2.1 81) (s.1 66 12) g x3 ∧ g ≠ .leaf ∧ rf_last g 0 = rf_last f 0 ∧ f ≠ .leaf ∧ n = rf_len g)) hsL (e := eX12_add) rfl ?_ ?_
    · exact w_r_add hI p0 p1 hf hK1 hK2 (fun x3 g i0 i1 i2 i3 => ⟨_, rfl, x3, g, rfl, rfl, i0, i1, i2, i3, rfl⟩)
    · rintro n pc ls u ⟨rfl, x3, g, rfl, rfl, i0, i1, i2, i3, rfl⟩
      exact w_r_add_25 hI p0 p1 hf hK1 hK2 i3 rfl i0 i1 i2 (fun x3 g i0 i1 i2 i3 hm => ⟨_, hm, rfl, x3, g, rfl, rfl, i0, i1, i2, i3, rfl⟩)

theorem w_r_append {CALL : sx_Ca} {sL : Nat} {sx : Nat → Int32} {Q : Nat → sx_L → sx_S → Prop} {R : Int → sx_S → Prop} {s : sx_S} {a0 a1 : Int} {f : rf_N} (hI : cx_I s) (p0 : 0 ≤ a0 ∧ a0 ≤ 59999) (p1 : -1 ≤ a1 ∧ a1 ≤ 59999) (hf : rf_nd (s.2.1 100) (s.2.1 101) (s.2.1 102) (s.2.1 103) (s.1 66 50) f (s.2.1 102 a0.toNat)) (hK1 : f = .leaf → R 0 (s.1, sx_ua s.2.1 102 a0.toNat a1, s.2.2)) (hK2 : ∀ l : Nat, f ≠ .leaf → l = rf_last f 0 → R 0 (s.1, sx_ua s.2.1 103 l a1, s.2.2)) (hQ : ∀ (x3 : Int) (g : rf_N), rf_nd (s.2.1 100) (s.2.1 101) (s.2.1 102) (s.2.1 103) (s.1 66 50) g x3 → g ≠ .leaf → rf_last g 0 = rf_last f 0 → f ≠ .leaf → Q 25 [(0, .inr (.inl 66)), (2, .inl a1), (3, .inl x3)] s) : sx_wp true sL sx eX12_append CALL [(25, [0, 2, 3])] Q R 400 0 (sx_argsF 0 [.inr (.inl 66), .inl a0, .inl a1]) [] s := by
  have hr := rf_nd_rng hf
  have hN := hI.fld 66 50 (by decide) rfl
  have hn : s.2.1 102 a0.toNat = -1 → f = .leaf := rf_nd_nil hf
  have hc : s.2.1 102 a0.toNat ≠ -1 → f ≠ .leaf := fun h e => by
    rw [e] at hf
    exact h hf
  repeat' (first | (with_reducible intro _) | (refine And.intro ?_ ?_) | (refine hK1 ?_) | (refine hQ _ f ?_ ?_ rfl ?_))
  all_goals (try dsimp only)
  all_goals (first | trivial | omega | (dsimp only at *; omega) | assumption | (subst_vars; assumption) | (subst_vars; exact hn (by omega)) | (subst_vars; exact hc (by omega)))
theorem w_r_append_25 {CALL : sx_Ca} {sL : Nat} {sx : Nat → Int32} {Q : Nat → sx_L → sx_S → Prop} {R : Int → sx_S → Prop} {s : sx_S} {a0 a1 : Int} {f : rf_N} (hI : cx_I s) (p0 : 0 ≤ a0 ∧ a0 ≤ 59999) (p1 : -1 ≤ a1 ∧ a1 ≤ 59999) (hf : rf_nd (s.2.1 100) (s.2.1 101) (s.2.1 102) (s.2.1 103) (s.1 66 50) f (s.2.1 102 a0.toNat)) (hK1 : f = .leaf → R 0 (s.1, sx_ua s.2.1 102 a0.toNat a1, s.2.2)) (hK2 : ∀ l : Nat, f ≠ .leaf → l = rf_last f 0 → R 0 (s.1, sx_ua s.2.1 103 l a1, s.2.2)) (hfl : f ≠ .leaf) {x3 : Int} {g : rf_N} {mm : Nat} (hm : mm = rf_len g) (hg : rf_nd (s.2.1 100) (s.2.1 101) (s.2.1 102) (s.2.1 103) (s.1 66 50) g x3) (hgl : g ≠ .leaf) (hgf : rf_last g 0 = rf_last f 0) (hQ : ∀ (x3 : Int) (g : rf_N), rf_nd (s.2.1 100) (s.2.1 101) (s.2.1 102) (s.2.1 103) (s.1 66 50) g x3 → g ≠ .leaf → rf_last g 0 = rf_last f 0 → f ≠ .leaf → rf_len g < mm → Q 25 [(0, .inr (.inl 66)), (2, .inl a1), (3, .inl x3)] s) : sx_wp true sL sx eX12_append CALL [(25, [0, 2, 3])] Q R 400 25 [(0, .inr (.inl 66)), (2, .inl a1), (3, .inl x3)] [] s := by
  have hN := hI.fld 66 50 (by decide) rfl
  obtain ⟨g1, g2, rfl, h0, h1, hg1, hg2⟩ := rf_nd_cons hg (fun e => hgl (rf_nd_nil hg e))
  have hr := rf_nd_rng hg2
  have hn : s.2.1 103 x3.toNat = -1 → g2 = .leaf := rf_nd_nil hg2
  have hc : s.2.1 103 x3.toNat ≠ -1 → g2 ≠ .leaf := fun h e => by
    rw [e] at hg2
    exact h hg2
  have hl : g2 ≠ .leaf → rf_last g2 0 = rf_last f 0 := fun h => by
    rw [← hgf]
    exact rf_last_d _ _ h
  have hl0 : g2 = .leaf → x3.toNat = rf_last f 0 := fun h => by
    rw [← hgf, h]
    rfl
  have hlen : rf_len g2 < mm := by
    rw [hm]
    exact Nat.lt_succ_self _
  repeat' (first | (with_reducible intro _) | (refine And.intro ?_ ?_) | (refine hK2 _ ?_ ?_) | (refine hQ _ g2 ?_ ?_ ?_ hfl hlen))
  all_goals (try dsimp only)
  all_goals (first | trivial | omega | (dsimp only at *; omega) | assumption | (subst_vars; assumption) | (subst_vars; exact hc (by omega)) | (subst_vars; exact hl (hc (by omega))) | (subst_vars; exact hl0 (hn (by omega))))
theorem c_r_append {sL : Nat} {sx : Nat → Int32} (hsL : sL ≤ 3072) (d : Nat) (hd : 2 ≤ d) : ∀ (a0 a1 : Int) (f : rf_N) (s : sx_S) (K : Int → sx_S → Prop), cx_I s → (0 ≤ a0 ∧ a0 ≤ 59999) → (-1 ≤ a1 ∧ a1 ≤ 59999) → rf_nd (s.2.1 100) (s.2.1 101) (s.2.1 102) (s.2.1 103) (s.1 66 50) f (s.2.1 102 a0.toNat) → (f = .leaf → K 0 (s.1, sx_ua s.2.1 102 a0.toNat a1, s.2.2)) → (∀ l : Nat, f ≠ .leaf → l = rf_last f 0 → K 0 (s.1, sx_ua s.2.1 103 l a1, s.2.2)) → sx_C sL sx d 179 [.inr (.inl 66), .inl a0, .inl a1] s K := by
  intro a0 a1 f s K hI p0 p1 hf hK1 hK2
  obtain ⟨d, rfl⟩ : ∃ e, d = e + 2 := ⟨d - 2, by omega⟩
  · refine sx_methL (wr := true) (n := 400) (n' := 400) (stop := [(25, [0, 2, 3])]) (fun n pc ls u => (pc = 25 ∧ ∃ (x3 : Int) (g : rf_N), ls = [(0, .inr (.inl 66)), (2, .inl a1), (3, .inl x3)] ∧ u = s ∧ rf_nd (s.2.1 100) (s.2.1 101) (s.2.1 102) (s.2.1 103) (s.1 66 50) g x3 ∧ g ≠ .leaf ∧ rf_last g 0 = rf_last f 0 ∧ f ≠ .leaf ∧ n = rf_len g)) hsL (e := eX12_append) rfl ?_ ?_
    · exact w_r_append hI p0 p1 hf hK1 hK2 (fun x3 g i0 i1 i2 i3 => ⟨_, rfl, x3, g, rfl, rfl, i0, i1, i2, i3, rfl⟩)
    · rintro n pc ls u ⟨rfl, x3, g, rfl, rfl, i0, i1, i2, i3, rfl⟩
      exact w_r_append_25 hI p0 p1 hf hK1 hK2 i3 rfl i0 i1 i2 (fun x3 g i0 i1 i2 i3 hm => ⟨_, hm, rfl, x3, g, rfl, rfl, i0, i1, i2, i3, rfl⟩)
end
section
/-! ===== the reference: what is read as trees ===== -/
def rf_rt (s : sx_S) (t : rf_N) (i : Int) : Prop := rf_nd (s.2.1 74) (s.2.1 75) (s.2.1 80) (s.2.1 81) (s.1 66 12) t i
/-- of the nodes read none below m has changed -/
def rf_nt (m : Int) (s t : sx_S) : Prop := ∀ p j : Nat, 74 ≤ p → p ≤ 84 → (j : Int) < m → t.2.1 p j = s.2.1 p j
/-- a new node -/
def rf_nk (s : sx_S) (z k : Int) : Prop := True → s.2.1 74 z.toNat = k ∧ s.2.1 80 z.toNat = -1 ∧ s.2.1 81 z.toNat = -1 ∧ s.2.1 84 z.toNat = -1
/-- the type of a LAM has as many atoms as it says -/
def rf_D (s : sx_S) (j : Nat) : Prop := ∃ x : rf_T, rf_is s x (s.2.1 76 j) ∧ s.2.1 78 j = (rf_at x : Int)
def rf_rw (s : sx_S) : rf_N → Prop × Prop
  | .leaf => (False, True)
  | .inner j k _ f x => ((k.1 = 0 ∧ rf_D s j ∧ (rf_rw s f).1) ∨ (k.1 = 2 ∧ (rf_rw s f).2), ((k.1 = 0 ∧ rf_D s j ∧ (rf_rw s f).1) ∨ (k.1 = 2 ∧ (rf_rw s f).2)) ∧ (rf_rw s x).2)
def rf_ht : rf_N → Nat × Nat
  | .leaf => (0, 0)
  | .inner _ k _ f x => (if k.1 = 0 then 1 + (rf_ht f).1 else 1 + (rf_ht f).2, max (if k.1 = 0 then 1 + (rf_ht f).1 else 1 + (rf_ht f).2) (rf_ht x).2)
/-- nothing stands behind it -/
def rf_nx : rf_N → Prop
  | .leaf => True
  | .inner _ _ _ _ x => x = .leaf
theorem rf_nt_refl (m : Int) (s : sx_S) : rf_nt m s s := fun _ _ _ _ _ => rfl
theorem rf_nt_uf {m : Int} {s : sx_S} {F : Nat → Nat → Int} {B : (Nat → Nat → Int) × (Nat → Nat → Int) × Nat} {p k : Nat} {v : Int} (h : rf_nt m s (F, B)) : rf_nt m s (sx_uf F p k v, B) := h
theorem rf_nt_ua {m : Int} {s : sx_S} {F A : Nat → Nat → Int} {B : (Nat → Nat → Int) × Nat} {p : Nat} {k v : Int} (hk : m ≤ k) (hk0 : 0 ≤ k) (h : rf_nt m s (F, A, B)) : rf_nt m s (F, sx_ua A p k.toNat v, B) := by
  intro q j h1 h2 h3
  show sx_ua A p k.toNat v q j = _
  rw [sx_ua_if]
  split
  · rw [if_neg (by omega)]
    exact h q j h1 h2 h3
  · exact h q j h1 h2 h3
theorem rf_nt_trans {m m' : Int} {s t u : sx_S} (h2 : rf_nt m' t u) (hm : m ≤ m') (h1 : rf_nt m s t) : rf_nt m s u := fun p j a b c => (h2 p j a b (by omega)).trans (h1 p j a b c)
theorem rf_nt_F {V : List (Nat × Nat)} {m : Int} {s t u : sx_S} (hF : cx_F V t u) (hV : (List.range 11).all (fun i => cx_outb V (74 + i)) = true) (h : rf_nt m s t) : rf_nt m s u := by
  intro p j a b c
  have := List.all_eq_true.mp hV (p - 74) (List.mem_range.mpr (by omega))
  rw [show 74 + (p - 74) = p by omega] at this
  rw [(hF.same p this).2]
  exact h p j a b c
theorem rf_nk_nt {m : Int} {s t : sx_S} {z k : Int} (h : rf_nk s z k) (hn : rf_nt m s t) (h0 : 0 ≤ z) (hz : z < m) : rf_nk t z k := by
  intro q
  obtain ⟨h1, h2, h3, h4⟩ := h q
  exact ⟨(hn 74 z.toNat (by omega) (by omega) (by omega)).trans h1, (hn 80 z.toNat (by omega) (by omega) (by omega)).trans h2, (hn 81 z.toNat (by omega) (by omega) (by omega)).trans h3, (hn 84 z.toNat (by omega) (by omega) (by omega)).trans h4⟩
theorem rf_nk_mk {F A : Nat → Nat → Int} {B : (Nat → Nat → Int) × Nat} {n1 n2 n3 n4 n5 n6 : Nat} {z k a : Int} (h1 : n1 = z.toNat) (h3 : n3 = z.toNat) (h4 : n4 = z.toNat) (h6 : n6 = z.toNat) : rf_nk (F, sx_ua (sx_ua (sx_ua (sx_ua (sx_ua (sx_ua A 74 n1 k) 75 n2 a) 80 n3 (-1)) 81 n4 (-1)) 79 n5 (-1)) 84 n6 (-1), B) z k := by
  subst h1 h3 h4 h6
  intro _
  dsimp only
  refine ⟨?_, ?_, ?_, ?_⟩
  · rw [sx_ua_ne (by decide), sx_ua_ne (by decide), sx_ua_ne (by decide), sx_ua_ne (by decide), sx_ua_ne (by decide), sx_ua_same]
    exact if_pos rfl
  · rw [sx_ua_ne (by decide), sx_ua_ne (by decide), sx_ua_ne (by decide), sx_ua_same]
    exact if_pos rfl
  · rw [sx_ua_ne (by decide), sx_ua_ne (by decide), sx_ua_same]
    exact if_pos rfl
  · rw [sx_ua_same]
    exact if_pos rfl
theorem rf_rt_nt {m : Int} {s t : sx_S} {n : rf_N} {i : Int} (hn : rf_nt m s t) (h12 : s.1 66 12 ≤ t.1 66 12) (hj : ∀ j ∈ rf_idx n, (j : Int) < m) (h : rf_rt s n i) : rf_rt t n i :=
  rf_nd_mono h12 (fun j q => ⟨hn 74 j (by omega) (by omega) (hj j q), hn 75 j (by omega) (by omega) (hj j q), hn 80 j (by omega) (by omega) (hj j q), hn 81 j (by omega) (by omega) (hj j q)⟩) h
/-- the tree of a node under way: its parts, the state behind add -/
theorem rf_add_tr {lo mid hi : Int} {s t : sx_S} {a0 a1 : Int} {j : Nat} {k : Int × Int} {f tp : rf_N} (h12 : t.1 66 12 = s.1 66 12) (hR : rf_rt s (.inner j k () f .leaf) a0) (hn : (rf_idx (.inner j k () f .leaf)).Nodup) (hb : ∀ i ∈ rf_idx (.inner j k () f .leaf), lo ≤ (i : Int) ∧ (i : Int) < mid) (hp : rf_rt s tp a1) (hpn : (rf_idx tp).Nodup) (hpb : ∀ i ∈ rf_idx tp, mid ≤ (i : Int) ∧ (i : Int) < hi) (hmh : mid ≤ hi)
    (ht : (f = .leaf ∧ t.2.1 = sx_ua s.2.1 80 a0.toNat a1) ∨ (f ≠ .leaf ∧ t.2.1 = sx_ua s.2.1 81 (rf_last f 0) a1)) : rf_rt t (.inner j k () (rf_snoc f tp) .leaf) a0 ∧ (rf_idx (.inner j k () (rf_snoc f tp) .leaf)).Nodup ∧ (∀ i ∈ rf_idx (.inner j k () (rf_snoc f tp) .leaf), lo ≤ (i : Int) ∧ (i : Int) < hi) ∧ rf_rt t tp a1 := by
  obtain ⟨⟨e0, e1⟩, ⟨e2, e3⟩, hf, hx⟩ := hR
  have hja : j = a0.toNat := by omega
  have hj0 := hb j List.mem_cons_self
  obtain ⟨n1, n2⟩ := List.nodup_cons.mp hn
  have n2' : (rf_idx f).Nodup := (List.nodup_append.mp n2).1
  have n1' : j ∉ rf_idx f := fun q => n1 (List.mem_append_left _ q)
  have hfb : ∀ i ∈ rf_idx f, lo ≤ (i : Int) ∧ (i : Int) < mid := fun i hi => hb i (List.mem_cons_of_mem _ (List.mem_append_left _ hi))
  have hdis : ∀ i, i ∈ rf_idx f → i ∉ rf_idx tp := fun i a b => by
    have := (hfb i a).2
    have := (hpb i b).1
    omega
  have hjp : j ∉ rf_idx tp := fun b => by
    have := (hpb j b).1
    omega
  have hidx : ∀ i, i ∈ rf_idx (.inner j k () (rf_snoc f tp) .leaf) ↔ i = j ∨ i ∈ rf_idx f ∨ i ∈ rf_idx tp := fun i => by
    show i ∈ j :: (rf_idx (rf_snoc f tp) ++ []) ↔ _
    rw [List.append_nil, List.mem_cons, rf_idx_snoc]
  have hnod : (rf_idx (.inner j k () (rf_snoc f tp) .leaf)).Nodup := by
    show (j :: (rf_idx (rf_snoc f tp) ++ [])).Nodup
    rw [List.append_nil]
    refine List.nodup_cons.mpr ⟨fun q => ?_, rf_nodup_snoc f tp n2' hpn hdis⟩
    rcases (rf_idx_snoc f tp j).mp q with q | q
    · exact n1' q
    · exact hjp q
  refine ⟨?_, hnod, fun i hi' => ?_, ?_⟩
  · rcases ht with ⟨hl, ht⟩ | ⟨hl, ht⟩
    · subst hl
      have q74 : t.2.1 74 = s.2.1 74 := by rw [ht, sx_ua_ne (by decide)]
      have q75 : t.2.1 75 = s.2.1 75 := by rw [ht, sx_ua_ne (by decide)]
      have q81 : t.2.1 81 = s.2.1 81 := by rw [ht, sx_ua_ne (by decide)]
      have q80 : t.2.1 80 = fun i => if i = a0.toNat then a1 else s.2.1 80 i := by rw [ht, sx_ua_same]
      refine ⟨⟨e0, by rw [h12]; exact e1⟩, ⟨by rw [q74]; exact e2, by rw [q75]; exact e3⟩, ?_, ?_⟩
      · rw [q80]
        dsimp only
        rw [if_pos hja]
        refine rf_nd_mono (Int.le_of_eq h12.symm) (fun i hi => ⟨by rw [q74], by rw [q75], ?_, by rw [q81]⟩) hp
        show (if i = a0.toNat then a1 else s.2.1 80 i) = s.2.1 80 i
        rw [if_neg (fun e => hjp (by rw [hja, ← e]; exact hi))]
      · rw [q81]
        exact hx
    · have q74 : t.2.1 74 = s.2.1 74 := by rw [ht, sx_ua_ne (by decide)]
      have q75 : t.2.1 75 = s.2.1 75 := by rw [ht, sx_ua_ne (by decide)]
      have q80 : t.2.1 80 = s.2.1 80 := by rw [ht, sx_ua_ne (by decide)]
      have q81 : t.2.1 81 = fun i => if i = rf_last f 0 then a1 else s.2.1 81 i := by rw [ht, sx_ua_same]
      have hlm := rf_last_mem f 0 hl
      have hp' : rf_nd (t.2.1 74) (t.2.1 75) (t.2.1 80) (t.2.1 81) (t.1 66 12) tp a1 := by
        refine rf_nd_mono (Int.le_of_eq h12.symm) (fun i hi => ⟨by rw [q74], by rw [q75], by rw [q80], ?_⟩) hp
        rw [q81]
        dsimp only
        rw [if_neg (fun e => hdis _ hlm (by rw [← e]; exact hi))]
      refine ⟨⟨e0, by rw [h12]; exact e1⟩, ⟨by rw [q74]; exact e2, by rw [q75]; exact e3⟩, ?_, ?_⟩
      · have hf' : rf_nd (t.2.1 74) (t.2.1 75) (t.2.1 80) (s.2.1 81) (t.1 66 12) f (t.2.1 80 j) := by
          rw [q74, q75, q80, h12]
          exact hf
        refine rf_nd_snoc hp' hl n2' (d := 0) (fun i hi => ?_) ?_ hf'
        · rw [q81]
          dsimp only
          rw [if_neg hi]
        · rw [q81]
          dsimp only
          rw [if_pos rfl]
      · rw [q81]
        dsimp only
        rw [if_neg (fun e => n1' (by rw [e]; exact hlm))]
        exact hx
  · rcases (hidx i).mp hi' with q | q | q
    · rw [q]
      omega
    · have := hfb i q
      omega
    · have := hpb i q
      omega
  · rcases ht with ⟨hl, ht⟩ | ⟨hl, ht⟩
    · refine rf_nd_mono (Int.le_of_eq h12.symm) (fun i hi => ⟨by rw [ht, sx_ua_ne (by decide)], by rw [ht, sx_ua_ne (by decide)], ?_, by rw [ht, sx_ua_ne (by decide)]⟩) hp
      rw [ht, sx_ua_same]
      dsimp only
      rw [if_neg (fun e => hjp (by rw [hja, ← e]; exact hi))]
    · have hlm := rf_last_mem f 0 hl
      refine rf_nd_mono (Int.le_of_eq h12.symm) (fun i hi => ⟨by rw [ht, sx_ua_ne (by decide)], by rw [ht, sx_ua_ne (by decide)], by rw [ht, sx_ua_ne (by decide)], ?_⟩) hp
      rw [ht, sx_ua_same]
      dsimp only
      rw [if_neg (fun e => hdis _ hlm (by rw [← e]; exact hi))]
end
section
/-! ===== the reference: small methods ===== -/
/-- of an array group (from, to) nothing below m has changed -/
def rf_ag (a b : Nat) (m : Int) (s t : sx_S) : Prop := ∀ p j : Nat, a ≤ p → p ≤ b → (j : Int) < m → t.2.1 p j = s.2.1 p j
theorem rf_ag_refl (a b : Nat) (m : Int) (s : sx_S) : rf_ag a b m s s := fun _ _ _ _ _ => rfl
theorem rf_ag_uf {a b : Nat} {m : Int} {s : sx_S} {F : Nat → Nat → Int} {B : (Nat → Nat → Int) × (Nat → Nat → Int) × Nat} {p k : Nat} {v : Int} (h : rf_ag a b m s (F, B)) : rf_ag a b m s (sx_uf F p k v, B) := h
theorem rf_ag_ua {a b : Nat} {m : Int} {s : sx_S} {F A : Nat → Nat → Int} {B : (Nat → Nat → Int) × Nat} {p : Nat} {k v : Int} (hk : m ≤ k) (hk0 : 0 ≤ k) (h : rf_ag a b m s (F, A, B)) : rf_ag a b m s (F, sx_ua A p k.toNat v, B) := by
  intro q j h1 h2 h3
  show sx_ua A p k.toNat v q j = _
  rw [sx_ua_if]
  split
  · rw [if_neg (by omega)]
    exact h q j h1 h2 h3
  · exact h q j h1 h2 h3
theorem rf_ag_uo {a b : Nat} {m : Int} {s : sx_S} {F A : Nat → Nat → Int} {B : (Nat → Nat → Int) × Nat} {p k : Nat} {v : Int} (hp : (Nat.blt p a || Nat.blt b p) = true) (h : rf_ag a b m s (F, A, B)) : rf_ag a b m s (F, sx_ua A p k v, B) := by
  intro q j h1 h2 h3
  show sx_ua A p k v q j = _
  rw [Bool.or_eq_true] at hp
  have hp' : p < a ∨ b < p := hp.elim (fun z => Or.inl (Nat.ble_eq.mp z)) (fun z => Or.inr (Nat.ble_eq.mp z))
  rw [sx_ua_ne (by omega)]
  exact h q j h1 h2 h3
theorem rf_ag_trans {a b : Nat} {m m' : Int} {s t u : sx_S} (h2 : rf_ag a b m' t u) (hm : m ≤ m') (h1 : rf_ag a b m s t) : rf_ag a b m s u := fun p j x y z => (h2 p j x y (by omega)).trans (h1 p j x y z)
theorem rf_ag_F {V : List (Nat × Nat)} {a b : Nat} {m : Int} {s t u : sx_S} (hF : cx_F V t u) (hV : (List.range (b + 1 - a)).all (fun i => cx_outb V (a + i)) = true) (h : rf_ag a b m s t) : rf_ag a b m s u := by
  intro p j x y z
  have := List.all_eq_true.mp hV (p - a) (List.mem_range.mpr (by omega))
  rw [show a + (p - a) = p by omega] at this
  rw [(hF.same p this).2]
  exact h p j x y z
/-- a new node: kind, ref, no part, no next -/
def rf_mk (s : sx_S) (z k r : Int) : Prop := True → s.2.1 100 z.toNat = k ∧ s.2.1 101 z.toNat = r ∧ s.2.1 102 z.toNat = -1 ∧ s.2.1 103 z.toNat = -1
theorem rf_mk_mk {F A : Nat → Nat → Int} {B : (Nat → Nat → Int) × Nat} {n1 n2 n3 n4 : Nat} {z k r : Int} (h1 : n1 = z.toNat) (h2 : n2 = z.toNat) (h3 : n3 = z.toNat) (h4 : n4 = z.toNat) : rf_mk (F, sx_ua (sx_ua (sx_ua (sx_ua A 100 n1 k) 101 n2 r) 102 n3 (-1)) 103 n4 (-1), B) z k r := by
  subst h1 h2 h3 h4
  intro _
  dsimp only
  refine ⟨?_, ?_, ?_, ?_⟩
  · rw [sx_ua_ne (by decide), sx_ua_ne (by decide), sx_ua_ne (by decide), sx_ua_same]
    exact if_pos rfl
  · rw [sx_ua_ne (by decide), sx_ua_ne (by decide), sx_ua_same]
    exact if_pos rfl
  · rw [sx_ua_ne (by decide), sx_ua_same]
    exact if_pos rfl
  · rw [sx_ua_same]
    exact if_pos rfl
/-- a new name -/
def rf_nm (s : sx_S) (z a b r : Int) : Prop := True → s.2.1 115 z.toNat = a ∧ s.2.1 116 z.toNat = b ∧ s.2.1 117 z.toNat = r
theorem rf_nm_mk {F A : Nat → Nat → Int} {B : (Nat → Nat → Int) × Nat} {n1 n2 n3 : Nat} {z a b r : Int} (h1 : n1 = z.toNat) (h2 : n2 = z.toNat) (h3 : n3 = z.toNat) : rf_nm (F, sx_ua (sx_ua (sx_ua A 115 n1 a) 116 n2 b) 117 n3 r, B) z a b r := by
  subst h1 h2 h3
  intro _
  dsimp only
  refine ⟨?_, ?_, ?_⟩
  · rw [sx_ua_ne (by decide), sx_ua_ne (by decide), sx_ua_same]
    exact if_pos rfl
  · rw [sx_ua_ne (by decide), sx_ua_same]
    exact if_pos rfl
  · rw [sx_ua_same]
    exact if_pos rfl

theorem w_r_wrong {CALL : sx_Ca} {sL : Nat} {sx : Nat → Int32} {Q : Nat → sx_L → sx_S → Prop} {R : Int → sx_S → Prop} {s : sx_S} {a0 a1 : Int} (hI : cx_I s) (p0 : (1 ≤ a0 ∧ a0 ≤ 6)) (p1 : (0 ≤ a1 ∧ a1 ≤ 241)) (hK : ∀ (z : Int) (t : sx_S), cx_I t → cx_F [(66, 66)] s t → (rf_f [40, 41] s t) → (t.1 66 40 ≠ 0) → ((s.1 66 40 ≠ 0 ∧ t.1 66 40 = s.1 66 40 ∧ t.1 66 41 = s.1 66 41) ∨ (s.1 66 40 = 0 ∧ t.1 66 40 = a0 ∧ t.1 66 41 = a1)) → R z t) : sx_wp true sL sx eX12_wrong CALL [] Q R 400 0 (sx_argsF 0 [.inr (.inl 66), .inl a0, .inl a1]) [] s := by
  repeat' (first | (with_reducible intro _) | (refine And.intro ?_ ?_) | (refine hK _ _ ?_ ?_ ?_ ?_ ?_))
  all_goals (try dsimp only)
  repeat' (first | (with_reducible assumption) | ((with_reducible (change cx_I (sx_uf _ _ _ _, _))); refine cx_I_uf rfl rfl ?_ ?_ ?_) | ((with_reducible (change cx_I (_, sx_ua _ _ _ _, _))); refine cx_I_ua rfl rfl ?_ ?_ ?_) | ((with_reducible (change cx_I (_, sx_ua _ 16 _ _, _))); refine cx_I_ari ?_ ?_ ?_) | ((with_reducible (change cx_I (sx_uf _ 11 6 _, _))); refine cx_I_ufA rfl ?_ ?_ ?_ ?_) | (with_reducible exact cx_F_refl _ _) | ((with_reducible (change cx_F _ _ (sx_uf _ _ _ _, _))); refine cx_F_uf rfl ?_) | ((with_reducible (change cx_F _ _ (_, sx_ua _ _ _ _, _))); refine cx_F_ua rfl ?_) | ((with_reducible (change cx_I (_, sx_cpy _ _ _ _ _ _, _))); refine cx_I_cpy rfl rfl rfl (by decide) ?_) | ((with_reducible (change cx_F _ _ (_, sx_cpy _ _ _ _ _ _, _))); refine cx_F_cpy rfl ?_) | ((with_reducible (change cx_F _ _ _)); refine cx_F_step (by assumption) rfl ?_) | ((with_reducible (change rf_f _ _ (sx_uf _ 66 _ _, _))); refine rf_f_uf rfl ?_) | ((with_reducible (change rf_f _ _ _)); exact (fun _ _ => rfl)) | ((with_reducible (change rf_f _ _ (_, sx_ua _ _ _ _, _))); refine rf_f_ua ?_) | ((with_reducible (change rf_f _ _ _)); assumption) | ((with_reducible (change rf_f _ _ _)); refine rf_f_step (by assumption) rfl ?_) | ((with_reducible (change rf_f _ _ _)); refine rf_f_F (by assumption) rfl ?_) | ((with_reducible (change rf_A _ (sx_uf _ _ _ _, _))); refine rf_A_uf ?_) | ((with_reducible (change rf_A _ (_, sx_ua _ _ _ _, _))); refine rf_A_ua rfl ?_) | ((with_reducible (change rf_A _ _)); assumption) | ((with_reducible (change rf_A _ _)); refine rf_A_F (by assumption) rfl ?_) | ((with_reducible (change rf_ag _ _ _ _ _)); assumption) | ((with_reducible (change rf_ag _ _ _ _ _)); exact rf_ag_refl _ _ _ _) | ((with_reducible (change rf_ag _ _ _ _ (sx_uf _ _ _ _, _))); refine rf_ag_uf ?_) | ((with_reducible (change rf_ag _ _ _ _ (_, sx_ua _ _ _ _, _))); refine rf_ag_uo rfl ?_) | ((with_reducible (change rf_ag _ _ _ _ (_, sx_ua _ _ _ _, _))); refine rf_ag_ua (by (first | omega | (dsimp only at *; omega) | (simp only [sx_uf_if, sx_ua_if, sx_w_t, true_and, and_true, and_self, and_false, false_and, if_true, if_false, reduceIte] at *; omega) | rfl)) (by (first | omega | (dsimp only at *; omega) | (simp only [sx_uf_if, sx_ua_if, sx_w_t, true_and, and_true, and_self, and_false, false_and, if_true, if_false, reduceIte] at *; omega) | rfl)) ?_) | ((with_reducible (change rf_ag _ _ _ _ _)); refine rf_ag_F (by assumption) rfl ?_) | ((with_reducible (change rf_ag _ _ _ _ _)); refine rf_ag_trans (by assumption) (by (first | omega | (dsimp only at *; omega) | (simp only [sx_uf_if, sx_ua_if, sx_w_t, true_and, and_true, and_self, and_false, false_and, if_true, if_false, reduceIte] at *; omega) | rfl)) ?_) | fail)
  repeat' (first | (with_reducible assumption) | ((with_reducible (change cx_I (sx_uf _ _ _ _, _))); refine cx_I_uf rfl rfl ?_ ?_ ?_) | ((with_reducible (change cx_I (_, sx_ua _ _ _ _, _))); refine cx_I_ua rfl rfl ?_ ?_ ?_) | ((with_reducible (change cx_I (_, sx_ua _ 16 _ _, _))); refine cx_I_ari ?_ ?_ ?_) | ((with_reducible (change cx_I (sx_uf _ 11 6 _, _))); refine cx_I_ufA rfl ?_ ?_ ?_ ?_) | (with_reducible exact cx_F_refl _ _) | ((with_reducible (change cx_F _ _ (sx_uf _ _ _ _, _))); refine cx_F_uf rfl ?_) | ((with_reducible (change cx_F _ _ (_, sx_ua _ _ _ _, _))); refine cx_F_ua rfl ?_) | ((with_reducible (change cx_I (_, sx_cpy _ _ _ _ _ _, _))); refine cx_I_cpy rfl rfl rfl (by decide) ?_) | ((with_reducible (change cx_F _ _ (_, sx_cpy _ _ _ _ _ _, _))); refine cx_F_cpy rfl ?_) | ((with_reducible (change cx_F _ _ _)); refine cx_F_step (by assumption) rfl ?_) | ((with_reducible (change rf_f _ _ (sx_uf _ 66 _ _, _))); refine rf_f_uf rfl ?_) | ((with_reducible (change rf_f _ _ _)); exact (fun _ _ => rfl)) | ((with_reducible (change rf_f _ _ (_, sx_ua _ _ _ _, _))); refine rf_f_ua ?_) | ((with_reducible (change rf_f _ _ _)); assumption) | ((with_reducible (change rf_f _ _ _)); refine rf_f_step (by assumption) rfl ?_) | ((with_reducible (change rf_f _ _ _)); refine rf_f_F (by assumption) rfl ?_) | ((with_reducible (change rf_A _ (sx_uf _ _ _ _, _))); refine rf_A_uf ?_) | ((with_reducible (change rf_A _ (_, sx_ua _ _ _ _, _))); refine rf_A_ua rfl ?_) | ((with_reducible (change rf_A _ _)); assumption) | ((with_reducible (change rf_A _ _)); refine rf_A_F (by assumption) rfl ?_) | fail)
  all_goals (first | trivial | omega | (dsimp only at *; omega) | (simp only [sx_uf_if, sx_ua_if, sx_w_t, true_and, and_true, and_self, and_false, false_and, if_true, if_false, reduceIte] at *; omega) | (subst_vars; omega) | (subst_vars; simp only [sx_uf_if, sx_ua_if, sx_w_t, true_and, and_true, and_self, and_false, false_and, if_true, if_false, reduceIte] at *; omega) | (subst_vars; rfl) | (subst_vars; decide) | (simp only [sx_uf_if, sx_ua_if, sx_w_t, true_and, and_true, and_self, and_false, false_and, if_true, if_false, reduceIte]; done) | (subst_vars; simp only [sx_uf_if, sx_ua_if, sx_w_t, true_and, and_true, and_self, and_false, false_and, if_true, if_false, reduceIte]; done))

theorem c_r_wrong {sL : Nat} {sx : Nat → Int32} (hsL : sL ≤ 3072) (d : Nat) (hd : 2 ≤ d) : ∀ (a0 a1 : Int) (s : sx_S) (K : Int → sx_S → Prop), cx_I s → (1 ≤ a0 ∧ a0 ≤ 6) → (0 ≤ a1 ∧ a1 ≤ 241) → (∀ (z : Int) (t : sx_S), cx_I t → cx_F [(66, 66)] s t → (rf_f [40, 41] s t) → (t.1 66 40 ≠ 0) → ((s.1 66 40 ≠ 0 ∧ t.1 66 40 = s.1 66 40 ∧ t.1 66 41 = s.1 66 41) ∨ (s.1 66 40 = 0 ∧ t.1 66 40 = a0 ∧ t.1 66 41 = a1)) → K z t) → sx_C sL sx d 165 [.inr (.inl 66), .inl a0, .inl a1] s K := by
  intro a0 a1 s K hI p0 p1 hK
  obtain ⟨d, rfl⟩ : ∃ e, d = e + 2 := ⟨d - 2, by omega⟩
  exact sx_meth (wr := true) (n := 400) hsL (e := eX12_wrong) rfl (w_r_wrong (Q := fun _ _ _ => False)  hI p0 p1 hK)

theorem w_r_newVar {CALL : sx_Ca} {sL : Nat} {sx : Nat → Int32} {Q : Nat → sx_L → sx_S → Prop} {R : Int → sx_S → Prop} {s : sx_S} {a0 : Int} (hI : cx_I s) (p0 : (0 ≤ a0 ∧ a0 ≤ 5999)) (p1 : (s.1 66 58 ≤ 399999)) (hK : ∀ (z : Int) (t : sx_S), cx_I t → cx_F [(66, 66), (106, 106)] s t → (z = s.1 66 58) → (t.1 66 58 = s.1 66 58 + 1) → (rf_f [58] s t) → (rf_ag 106 106 (s.1 66 58) s t) → (t.2.1 106 z.toNat = a0) → R z t) : sx_wp true sL sx eX12_newVar CALL [] Q R 400 0 (sx_argsF 0 [.inr (.inl 66), .inl a0]) [] s := by
  repeat' (first | (with_reducible intro _) | (refine And.intro ?_ ?_) | (refine hK _ _ ?_ ?_ ?_ ?_ ?_ ?_ ?_))
  all_goals (try dsimp only)
  repeat' (first | (with_reducible assumption) | ((with_reducible (change cx_I (sx_uf _ _ _ _, _))); refine cx_I_uf rfl rfl ?_ ?_ ?_) | ((with_reducible (change cx_I (_, sx_ua _ _ _ _, _))); refine cx_I_ua rfl rfl ?_ ?_ ?_) | ((with_reducible (change cx_I (_, sx_ua _ 16 _ _, _))); refine cx_I_ari ?_ ?_ ?_) | ((with_reducible (change cx_I (sx_uf _ 11 6 _, _))); refine cx_I_ufA rfl ?_ ?_ ?_ ?_) | (with_reducible exact cx_F_refl _ _) | ((with_reducible (change cx_F _ _ (sx_uf _ _ _ _, _))); refine cx_F_uf rfl ?_) | ((with_reducible (change cx_F _ _ (_, sx_ua _ _ _ _, _))); refine cx_F_ua rfl ?_) | ((with_reducible (change cx_I (_, sx_cpy _ _ _ _ _ _, _))); refine cx_I_cpy rfl rfl rfl (by decide) ?_) | ((with_reducible (change cx_F _ _ (_, sx_cpy _ _ _ _ _ _, _))); refine cx_F_cpy rfl ?_) | ((with_reducible (change cx_F _ _ _)); refine cx_F_step (by assumption) rfl ?_) | ((with_reducible (change rf_f _ _ (sx_uf _ 66 _ _, _))); refine rf_f_uf rfl ?_) | ((with_reducible (change rf_f _ _ _)); exact (fun _ _ => rfl)) | ((with_reducible (change rf_f _ _ (_, sx_ua _ _ _ _, _))); refine rf_f_ua ?_) | ((with_reducible (change rf_f _ _ _)); assumption) | ((with_reducible (change rf_f _ _ _)); refine rf_f_step (by assumption) rfl ?_) | ((with_reducible (change rf_f _ _ _)); refine rf_f_F (by assumption) rfl ?_) | ((with_reducible (change rf_A _ (sx_uf _ _ _ _, _))); refine rf_A_uf ?_) | ((with_reducible (change rf_A _ (_, sx_ua _ _ _ _, _))); refine rf_A_ua rfl ?_) | ((with_reducible (change rf_A _ _)); assumption) | ((with_reducible (change rf_A _ _)); refine rf_A_F (by assumption) rfl ?_) | ((with_reducible (change rf_ag _ _ _ _ _)); assumption) | ((with_reducible (change rf_ag _ _ _ _ _)); exact rf_ag_refl _ _ _ _) | ((with_reducible (change rf_ag _ _ _ _ (sx_uf _ _ _ _, _))); refine rf_ag_uf ?_) | ((with_reducible (change rf_ag _ _ _ _ (_, sx_ua _ _ _ _, _))); refine rf_ag_uo rfl ?_) | ((with_reducible (change rf_ag _ _ _ _ (_, sx_ua _ _ _ _, _))); refine rf_ag_ua (by (first | omega | (dsimp only at *; omega) | (simp only [sx_uf_if, sx_ua_if, sx_w_t, true_and, and_true, and_self, and_false, false_and, if_true, if_false, reduceIte] at *; omega) | rfl)) (by (first | omega | (dsimp only at *; omega) | (simp only [sx_uf_if, sx_ua_if, sx_w_t, true_and, and_true, and_self, and_false, false_and, if_true, if_false, reduceIte] at *; omega) | rfl)) ?_) | ((with_reducible (change rf_ag _ _ _ _ _)); refine rf_ag_F (by assumption) rfl ?_) | ((with_reducible (change rf_ag _ _ _ _ _)); refine rf_ag_trans (by assumption) (by (first | omega | (dsimp only at *; omega) | (simp only [sx_uf_if, sx_ua_if, sx_w_t, true_and, and_true, and_self, and_false, false_and, if_true, if_false, reduceIte] at *; omega) | rfl)) ?_) | fail)
  repeat' (first | (with_reducible assumption) | ((with_reducible (change cx_I (sx_uf _ _ _ _, _))); refine cx_I_uf rfl rfl ?_ ?_ ?_) | ((with_reducible (change cx_I (_, sx_ua _ _ _ _, _))); refine cx_I_ua rfl rfl ?_ ?_ ?_) | ((with_reducible (change cx_I (_, sx_ua _ 16 _ _, _))); refine cx_I_ari ?_ ?_ ?_) | ((with_reducible (change cx_I (sx_uf _ 11 6 _, _))); refine cx_I_ufA rfl ?_ ?_ ?_ ?_) | (with_reducible exact cx_F_refl _ _) | ((with_reducible (change cx_F _ _ (sx_uf _ _ _ _, _))); refine cx_F_uf rfl ?_) | ((with_reducible (change cx_F _ _ (_, sx_ua _ _ _ _, _))); refine cx_F_ua rfl ?_) | ((with_reducible (change cx_I (_, sx_cpy _ _ _ _ _ _, _))); refine cx_I_cpy rfl rfl rfl (by decide) ?_) | ((with_reducible (change cx_F _ _ (_, sx_cpy _ _ _ _ _ _, _))); refine cx_F_cpy rfl ?_) | ((with_reducible (change cx_F _ _ _)); refine cx_F_step (by assumption) rfl ?_) | ((with_reducible (change rf_f _ _ (sx_uf _ 66 _ _, _))); refine rf_f_uf rfl ?_) | ((with_reducible (change rf_f _ _ _)); exact (fun _ _ => rfl)) | ((with_reducible (change rf_f _ _ (_, sx_ua _ _ _ _, _))); refine rf_f_ua ?_) | ((with_reducible (change rf_f _ _ _)); assumption) | ((with_reducible (change rf_f _ _ _)); refine rf_f_step (by assumption) rfl ?_) | ((with_reducible (change rf_f _ _ _)); refine rf_f_F (by assumption) rfl ?_) | ((with_reducible (change rf_A _ (sx_uf _ _ _ _, _))); refine rf_A_uf ?_) | ((with_reducible (change rf_A _ (_, sx_ua _ _ _ _, _))); refine rf_A_ua rfl ?_) | ((with_reducible (change rf_A _ _)); assumption) | ((with_reducible (change rf_A _ _)); refine rf_A_F (by assumption) rfl ?_) | fail)
  all_goals (first | trivial | omega | (dsimp only at *; omega) | (simp only [sx_uf_if, sx_ua_if, sx_w_t, true_and, and_true, and_self, and_false, false_and, if_true, if_false, reduceIte] at *; omega) | (subst_vars; omega) | (subst_vars; simp only [sx_uf_if, sx_ua_if, sx_w_t, true_and, and_true, and_self, and_false, false_and, if_true, if_false, reduceIte] at *; omega) | (subst_vars; rfl) | (subst_vars; decide) | (simp only [sx_uf_if, sx_ua_if, sx_w_t, true_and, and_true, and_self, and_false, false_and, if_true, if_false, reduceIte]; done) | (subst_vars; simp only [sx_uf_if, sx_ua_if, sx_w_t, true_and, and_true, and_self, and_false, false_and, if_true, if_false, reduceIte]; done))

theorem c_r_newVar {sL : Nat} {sx : Nat → Int32} (hsL : sL ≤ 3072) (d : Nat) (hd : 2 ≤ d) : ∀ (a0 : Int) (s : sx_S) (K : Int → sx_S → Prop), cx_I s → (0 ≤ a0 ∧ a0 ≤ 5999) → (s.1 66 58 ≤ 399999) → (∀ (z : Int) (t : sx_S), cx_I t → cx_F [(66, 66), (106, 106)] s t → (z = s.1 66 58) → (t.1 66 58 = s.1 66 58 + 1) → (rf_f [58] s t) → (rf_ag 106 106 (s.1 66 58) s t) → (t.2.1 106 z.toNat = a0) → K z t) → sx_C sL sx d 167 [.inr (.inl 66), .inl a0] s K := by
  intro a0 s K hI p0 p1 hK
  obtain ⟨d, rfl⟩ : ∃ e, d = e + 2 := ⟨d - 2, by omega⟩
  exact sx_meth (wr := true) (n := 400) hsL (e := eX12_newVar) rfl (w_r_newVar (Q := fun _ _ _ => False)  hI p0 p1 hK)

theorem w_r_told {CALL : sx_Ca} {sL : Nat} {sx : Nat → Int32} {Q : Nat → sx_L → sx_S → Prop} {R : Int → sx_S → Prop} {s : sx_S} {a0 : Int} (hI : cx_I s) (p0 : (-2147483648 ≤ a0 ∧ a0 ≤ 2147483647)) (hK : ∀ z : Int, (-2147483648 ≤ z ∧ z ≤ 2147483647) → R z s) : sx_wp true sL sx eX12_told CALL [] Q R 400 0 (sx_argsF 0 [.inr (.inl 66), .inl a0]) [] s := by
  repeat' (first | (with_reducible intro _) | (refine And.intro ?_ ?_) | (refine hK _ ?_))
  all_goals (try dsimp only)
  repeat' (first | (with_reducible assumption) | ((with_reducible (change cx_I (sx_uf _ _ _ _, _))); refine cx_I_uf rfl rfl ?_ ?_ ?_) | ((with_reducible (change cx_I (_, sx_ua _ _ _ _, _))); refine cx_I_ua rfl rfl ?_ ?_ ?_) | ((with_reducible (change cx_I (_, sx_ua _ 16 _ _, _))); refine cx_I_ari ?_ ?_ ?_) | ((with_reducible (change cx_I (sx_uf _ 11 6 _, _))); refine cx_I_ufA rfl ?_ ?_ ?_ ?_) | (with_reducible exact cx_F_refl _ _) | ((with_reducible (change cx_F _ _ (sx_uf _ _ _ _, _))); refine cx_F_uf rfl ?_) | ((with_reducible (change cx_F _ _ (_, sx_ua _ _ _ _, _))); refine cx_F_ua rfl ?_) | ((with_reducible (change cx_I (_, sx_cpy _ _ _ _ _ _, _))); refine cx_I_cpy rfl rfl rfl (by decide) ?_) | ((with_reducible (change cx_F _ _ (_, sx_cpy _ _ _ _ _ _, _))); refine cx_F_cpy rfl ?_) | ((with_reducible (change cx_F _ _ _)); refine cx_F_step (by assumption) rfl ?_) | fail)
  all_goals (first | trivial | omega | (dsimp only at *; omega) | (simp only [sx_uf_if, sx_ua_if, sx_w_t, true_and, and_true, and_self, and_false, false_and, if_true, if_false, reduceIte] at *; omega) | (subst_vars; rfl) | (subst_vars; decide))

theorem c_r_told {sL : Nat} {sx : Nat → Int32} (hsL : sL ≤ 3072) (d : Nat) (hd : 2 ≤ d) : ∀ (a0 : Int) (s : sx_S) (K : Int → sx_S → Prop), cx_I s → (-2147483648 ≤ a0 ∧ a0 ≤ 2147483647) → (∀ z : Int, (-2147483648 ≤ z ∧ z ≤ 2147483647) → K z s) → sx_C sL sx d 176 [.inr (.inl 66), .inl a0] s K := by
  intro a0 s K hI p0 hK
  obtain ⟨d, rfl⟩ : ∃ e, d = e + 2 := ⟨d - 2, by omega⟩
  exact sx_meth (wr := true) (n := 400) hsL (e := eX12_told) rfl (w_r_told (Q := fun _ _ _ => False)  hI p0 hK)

theorem w_r_count {CALL : sx_Ca} {sL : Nat} {sx : Nat → Int32} {Q : Nat → sx_L → sx_S → Prop} {R : Int → sx_S → Prop} {s : sx_S} {a0 : Int} (hI : cx_I s) (p0 : (-2147483648 ≤ a0 ∧ a0 ≤ 2147483647)) (hK : ∀ z : Int, (-2147483648 ≤ z ∧ z ≤ 2147483647) → R z s) : sx_wp true sL sx eX12_count CALL [] Q R 400 0 (sx_argsF 0 [.inr (.inl 66), .inl a0]) [] s := by
  repeat' (first | (with_reducible intro _) | (refine And.intro ?_ ?_) | (refine hK _ ?_))
  all_goals (try dsimp only)
  repeat' (first | (with_reducible assumption) | ((with_reducible (change cx_I (sx_uf _ _ _ _, _))); refine cx_I_uf rfl rfl ?_ ?_ ?_) | ((with_reducible (change cx_I (_, sx_ua _ _ _ _, _))); refine cx_I_ua rfl rfl ?_ ?_ ?_) | ((with_reducible (change cx_I (_, sx_ua _ 16 _ _, _))); refine cx_I_ari ?_ ?_ ?_) | ((with_reducible (change cx_I (sx_uf _ 11 6 _, _))); refine cx_I_ufA rfl ?_ ?_ ?_ ?_) | (with_reducible exact cx_F_refl _ _) | ((with_reducible (change cx_F _ _ (sx_uf _ _ _ _, _))); refine cx_F_uf rfl ?_) | ((with_reducible (change cx_F _ _ (_, sx_ua _ _ _ _, _))); refine cx_F_ua rfl ?_) | ((with_reducible (change cx_I (_, sx_cpy _ _ _ _ _ _, _))); refine cx_I_cpy rfl rfl rfl (by decide) ?_) | ((with_reducible (change cx_F _ _ (_, sx_cpy _ _ _ _ _ _, _))); refine cx_F_cpy rfl ?_) | ((with_reducible (change cx_F _ _ _)); refine cx_F_step (by assumption) rfl ?_) | fail)
  all_goals (first | trivial | omega | (dsimp only at *; omega) | (simp only [sx_uf_if, sx_ua_if, sx_w_t, true_and, and_true, and_self, and_false, false_and, if_true, if_false, reduceIte] at *; omega) | (subst_vars; rfl) | (subst_vars; decide))

theorem c_r_count {sL : Nat} {sx : Nat → Int32} (hsL : sL ≤ 3072) (d : Nat) (hd : 2 ≤ d) : ∀ (a0 : Int) (s : sx_S) (K : Int → sx_S → Prop), cx_I s → (-2147483648 ≤ a0 ∧ a0 ≤ 2147483647) → (∀ z : Int, (-2147483648 ≤ z ∧ z ≤ 2147483647) → K z s) → sx_C sL sx d 177 [.inr (.inl 66), .inl a0] s K := by
  intro a0 s K hI p0 hK
  obtain ⟨d, rfl⟩ : ∃ e, d = e + 2 := ⟨d - 2, by omega⟩
  exact sx_meth (wr := true) (n := 400) hsL (e := eX12_count) rfl (w_r_count (Q := fun _ _ _ => False)  hI p0 hK)

theorem w_r_fresh {CALL : sx_Ca} {sL : Nat} {sx : Nat → Int32} {Q : Nat → sx_L → sx_S → Prop} {R : Int → sx_S → Prop} {s : sx_S} (hI : cx_I s) (hK : ∀ z : Int, (-2147483648 ≤ z ∧ z ≤ 2147483647) → R z s) : sx_wp true sL sx eX12_fresh CALL [] Q R 400 0 (sx_argsF 0 [.inr (.inl 66)]) [] s := by
  repeat' (first | (with_reducible intro _) | (refine And.intro ?_ ?_) | (refine hK _ ?_))
  all_goals (try dsimp only)
  repeat' (first | (with_reducible assumption) | ((with_reducible (change cx_I (sx_uf _ _ _ _, _))); refine cx_I_uf rfl rfl ?_ ?_ ?_) | ((with_reducible (change cx_I (_, sx_ua _ _ _ _, _))); refine cx_I_ua rfl rfl ?_ ?_ ?_) | ((with_reducible (change cx_I (_, sx_ua _ 16 _ _, _))); refine cx_I_ari ?_ ?_ ?_) | ((with_reducible (change cx_I (sx_uf _ 11 6 _, _))); refine cx_I_ufA rfl ?_ ?_ ?_ ?_) | (with_reducible exact cx_F_refl _ _) | ((with_reducible (change cx_F _ _ (sx_uf _ _ _ _, _))); refine cx_F_uf rfl ?_) | ((with_reducible (change cx_F _ _ (_, sx_ua _ _ _ _, _))); refine cx_F_ua rfl ?_) | ((with_reducible (change cx_I (_, sx_cpy _ _ _ _ _ _, _))); refine cx_I_cpy rfl rfl rfl (by decide) ?_) | ((with_reducible (change cx_F _ _ (_, sx_cpy _ _ _ _ _ _, _))); refine cx_F_cpy rfl ?_) | ((with_reducible (change cx_F _ _ _)); refine cx_F_step (by assumption) rfl ?_) | fail)
  all_goals (first | trivial | omega | (dsimp only at *; omega) | (simp only [sx_uf_if, sx_ua_if, sx_w_t, true_and, and_true, and_self, and_false, false_and, if_true, if_false, reduceIte] at *; omega) | (subst_vars; rfl) | (subst_vars; decide))

theorem c_r_fresh {sL : Nat} {sx : Nat → Int32} (hsL : sL ≤ 3072) (d : Nat) (hd : 2 ≤ d) : ∀ (s : sx_S) (K : Int → sx_S → Prop), cx_I s → (∀ z : Int, (-2147483648 ≤ z ∧ z ≤ 2147483647) → K z s) → sx_C sL sx d 214 [.inr (.inl 66)] s K := by
  intro  s K hI  hK
  obtain ⟨d, rfl⟩ : ∃ e, d = e + 2 := ⟨d - 2, by omega⟩
  exact sx_meth (wr := true) (n := 400) hsL (e := eX12_fresh) rfl (w_r_fresh (Q := fun _ _ _ => False)  hI  hK)

theorem w_r_make {CALL : sx_Ca} {sL : Nat} {sx : Nat → Int32} {Q : Nat → sx_L → sx_S → Prop} {R : Int → sx_S → Prop} {s : sx_S} {a0 a1 : Int} (hI : cx_I s) (p0 : (0 ≤ a0 ∧ a0 ≤ 3)) (p1 : (-2147483648 ≤ a1 ∧ a1 ≤ 2147483647)) (p2 : (s.1 66 50 ≤ 59999)) (hK : ∀ (z : Int) (t : sx_S), cx_I t → cx_F [(66, 66), (100, 103)] s t → (z = s.1 66 50) → (t.1 66 50 = s.1 66 50 + 1) → (rf_f [50] s t) → (rf_ag 100 103 (s.1 66 50) s t) → (rf_mk t z a0 a1) → R z t) : sx_wp true sL sx eX12_make CALL [] Q R 400 0 (sx_argsF 0 [.inr (.inl 66), .inl a0, .inl a1]) [] s := by
  repeat' (first | (with_reducible intro _) | (refine And.intro ?_ ?_) | (refine hK _ _ ?_ ?_ ?_ ?_ ?_ ?_ ?_))
  all_goals (try dsimp only)
  repeat' (first | (with_reducible assumption) | ((with_reducible (change cx_I (sx_uf _ _ _ _, _))); refine cx_I_uf rfl rfl ?_ ?_ ?_) | ((with_reducible (change cx_I (_, sx_ua _ _ _ _, _))); refine cx_I_ua rfl rfl ?_ ?_ ?_) | ((with_reducible (change cx_I (_, sx_ua _ 16 _ _, _))); refine cx_I_ari ?_ ?_ ?_) | ((with_reducible (change cx_I (sx_uf _ 11 6 _, _))); refine cx_I_ufA rfl ?_ ?_ ?_ ?_) | (with_reducible exact cx_F_refl _ _) | ((with_reducible (change cx_F _ _ (sx_uf _ _ _ _, _))); refine cx_F_uf rfl ?_) | ((with_reducible (change cx_F _ _ (_, sx_ua _ _ _ _, _))); refine cx_F_ua rfl ?_) | ((with_reducible (change cx_I (_, sx_cpy _ _ _ _ _ _, _))); refine cx_I_cpy rfl rfl rfl (by decide) ?_) | ((with_reducible (change cx_F _ _ (_, sx_cpy _ _ _ _ _ _, _))); refine cx_F_cpy rfl ?_) | ((with_reducible (change cx_F _ _ _)); refine cx_F_step (by assumption) rfl ?_) | ((with_reducible (change rf_f _ _ (sx_uf _ 66 _ _, _))); refine rf_f_uf rfl ?_) | ((with_reducible (change rf_f _ _ _)); exact (fun _ _ => rfl)) | ((with_reducible (change rf_f _ _ (_, sx_ua _ _ _ _, _))); refine rf_f_ua ?_) | ((with_reducible (change rf_f _ _ _)); assumption) | ((with_reducible (change rf_f _ _ _)); refine rf_f_step (by assumption) rfl ?_) | ((with_reducible (change rf_f _ _ _)); refine rf_f_F (by assumption) rfl ?_) | ((with_reducible (change rf_A _ (sx_uf _ _ _ _, _))); refine rf_A_uf ?_) | ((with_reducible (change rf_A _ (_, sx_ua _ _ _ _, _))); refine rf_A_ua rfl ?_) | ((with_reducible (change rf_A _ _)); assumption) | ((with_reducible (change rf_A _ _)); refine rf_A_F (by assumption) rfl ?_) | ((with_reducible (change rf_ag _ _ _ _ _)); assumption) | ((with_reducible (change rf_ag _ _ _ _ _)); exact rf_ag_refl _ _ _ _) | ((with_reducible (change rf_ag _ _ _ _ (sx_uf _ _ _ _, _))); refine rf_ag_uf ?_) | ((with_reducible (change rf_ag _ _ _ _ (_, sx_ua _ _ _ _, _))); refine rf_ag_uo rfl ?_) | ((with_reducible (change rf_ag _ _ _ _ (_, sx_ua _ _ _ _, _))); refine rf_ag_ua (by (first | omega | (dsimp only at *; omega) | (simp only [sx_uf_if, sx_ua_if, sx_w_t, true_and, and_true, and_self, and_false, false_and, if_true, if_false, reduceIte] at *; omega) | rfl)) (by (first | omega | (dsimp only at *; omega) | (simp only [sx_uf_if, sx_ua_if, sx_w_t, true_and, and_true, and_self, and_false, false_and, if_true, if_false, reduceIte] at *; omega) | rfl)) ?_) | ((with_reducible (change rf_ag _ _ _ _ _)); refine rf_ag_F (by assumption) rfl ?_) | ((with_reducible (change rf_ag _ _ _ _ _)); refine rf_ag_trans (by assumption) (by (first | omega | (dsimp only at *; omega) | (simp only [sx_uf_if, sx_ua_if, sx_w_t, true_and, and_true, and_self, and_false, false_and, if_true, if_false, reduceIte] at *; omega) | rfl)) ?_) | fail)
  repeat' (first | (with_reducible assumption) | ((with_reducible (change cx_I (sx_uf _ _ _ _, _))); refine cx_I_uf rfl rfl ?_ ?_ ?_) | ((with_reducible (change cx_I (_, sx_ua _ _ _ _, _))); refine cx_I_ua rfl rfl ?_ ?_ ?_) | ((with_reducible (change cx_I (_, sx_ua _ 16 _ _, _))); refine cx_I_ari ?_ ?_ ?_) | ((with_reducible (change cx_I (sx_uf _ 11 6 _, _))); refine cx_I_ufA rfl ?_ ?_ ?_ ?_) | (with_reducible exact cx_F_refl _ _) | ((with_reducible (change cx_F _ _ (sx_uf _ _ _ _, _))); refine cx_F_uf rfl ?_) | ((with_reducible (change cx_F _ _ (_, sx_ua _ _ _ _, _))); refine cx_F_ua rfl ?_) | ((with_reducible (change cx_I (_, sx_cpy _ _ _ _ _ _, _))); refine cx_I_cpy rfl rfl rfl (by decide) ?_) | ((with_reducible (change cx_F _ _ (_, sx_cpy _ _ _ _ _ _, _))); refine cx_F_cpy rfl ?_) | ((with_reducible (change cx_F _ _ _)); refine cx_F_step (by assumption) rfl ?_) | ((with_reducible (change rf_f _ _ (sx_uf _ 66 _ _, _))); refine rf_f_uf rfl ?_) | ((with_reducible (change rf_f _ _ _)); exact (fun _ _ => rfl)) | ((with_reducible (change rf_f _ _ (_, sx_ua _ _ _ _, _))); refine rf_f_ua ?_) | ((with_reducible (change rf_f _ _ _)); assumption) | ((with_reducible (change rf_f _ _ _)); refine rf_f_step (by assumption) rfl ?_) | ((with_reducible (change rf_f _ _ _)); refine rf_f_F (by assumption) rfl ?_) | ((with_reducible (change rf_A _ (sx_uf _ _ _ _, _))); refine rf_A_uf ?_) | ((with_reducible (change rf_A _ (_, sx_ua _ _ _ _, _))); refine rf_A_ua rfl ?_) | ((with_reducible (change rf_A _ _)); assumption) | ((with_reducible (change rf_A _ _)); refine rf_A_F (by assumption) rfl ?_) | fail)
  all_goals (first | trivial | omega | (dsimp only at *; omega) | (simp only [sx_uf_if, sx_ua_if, sx_w_t, true_and, and_true, and_self, and_false, false_and, if_true, if_false, reduceIte] at *; omega) | (subst_vars; omega) | (subst_vars; simp only [sx_uf_if, sx_ua_if, sx_w_t, true_and, and_true, and_self, and_false, false_and, if_true, if_false, reduceIte] at *; omega) | (subst_vars; rfl) | (subst_vars; decide) | (simp only [sx_uf_if, sx_ua_if, sx_w_t, true_and, and_true, and_self, and_false, false_and, if_true, if_false, reduceIte]; done) | (subst_vars; simp only [sx_uf_if, sx_ua_if, sx_w_t, true_and, and_true, and_self, and_false, false_and, if_true, if_false, reduceIte]; done) | (refine rf_mk_mk ?_ ?_ ?_ ?_ <;> (simp only [sx_uf_if, sx_ua_if, sx_w_t, true_and, and_true, and_self, and_false, false_and, if_true, if_false, reduceIte] at *; omega)))

theorem c_r_make {sL : Nat} {sx : Nat → Int32} (hsL : sL ≤ 3072) (d : Nat) (hd : 2 ≤ d) : ∀ (a0 a1 : Int) (s : sx_S) (K : Int → sx_S → Prop), cx_I s → (0 ≤ a0 ∧ a0 ≤ 3) → (-2147483648 ≤ a1 ∧ a1 ≤ 2147483647) → (s.1 66 50 ≤ 59999) → (∀ (z : Int) (t : sx_S), cx_I t → cx_F [(66, 66), (100, 103)] s t → (z = s.1 66 50) → (t.1 66 50 = s.1 66 50 + 1) → (rf_f [50] s t) → (rf_ag 100 103 (s.1 66 50) s t) → (rf_mk t z a0 a1) → K z t) → sx_C sL sx d 178 [.inr (.inl 66), .inl a0, .inl a1] s K := by
  intro a0 a1 s K hI p0 p1 p2 hK
  obtain ⟨d, rfl⟩ : ∃ e, d = e + 2 := ⟨d - 2, by omega⟩
  exact sx_meth (wr := true) (n := 400) hsL (e := eX12_make) rfl (w_r_make (Q := fun _ _ _ => False)  hI p0 p1 p2 hK)

theorem w_r_name {CALL : sx_Ca} {sL : Nat} {sx : Nat → Int32} {Q : Nat → sx_L → sx_S → Prop} {R : Int → sx_S → Prop} {s : sx_S} {a0 a1 a2 : Int} (hI : cx_I s) (p0 : (-2147483648 ≤ a0 ∧ a0 ≤ 2147483647)) (p1 : (-2147483648 ≤ a1 ∧ a1 ≤ 2147483647)) (p2 : (-1 ≤ a2 ∧ a2 ≤ 399999)) (p3 : (s.1 66 71 ≤ 399999)) (hK : ∀ (z : Int) (t : sx_S), cx_I t → cx_F [(66, 66), (115, 117)] s t → (z = s.1 66 71) → (t.1 66 71 = s.1 66 71 + 1) → (rf_f [71] s t) → (rf_ag 115 117 (s.1 66 71) s t) → (rf_nm t z a0 a1 a2) → R z t) : sx_wp true sL sx eX12_name CALL [] Q R 400 0 (sx_argsF 0 [.inr (.inl 66), .inl a0, .inl a1, .inl a2]) [] s := by
  repeat' (first | (with_reducible intro _) | (refine And.intro ?_ ?_) | (refine hK _ _ ?_ ?_ ?_ ?_ ?_ ?_ ?_))
  all_goals (try dsimp only)
  repeat' (first | (with_reducible assumption) | ((with_reducible (change cx_I (sx_uf _ _ _ _, _))); refine cx_I_uf rfl rfl ?_ ?_ ?_) | ((with_reducible (change cx_I (_, sx_ua _ _ _ _, _))); refine cx_I_ua rfl rfl ?_ ?_ ?_) | ((with_reducible (change cx_I (_, sx_ua _ 16 _ _, _))); refine cx_I_ari ?_ ?_ ?_) | ((with_reducible (change cx_I (sx_uf _ 11 6 _, _))); refine cx_I_ufA rfl ?_ ?_ ?_ ?_) | (with_reducible exact cx_F_refl _ _) | ((with_reducible (change cx_F _ _ (sx_uf _ _ _ _, _))); refine cx_F_uf rfl ?_) | ((with_reducible (change cx_F _ _ (_, sx_ua _ _ _ _, _))); refine cx_F_ua rfl ?_) | ((with_reducible (change cx_I (_, sx_cpy _ _ _ _ _ _, _))); refine cx_I_cpy rfl rfl rfl (by decide) ?_) | ((with_reducible (change cx_F _ _ (_, sx_cpy _ _ _ _ _ _, _))); refine cx_F_cpy rfl ?_) | ((with_reducible (change cx_F _ _ _)); refine cx_F_step (by assumption) rfl ?_) | ((with_reducible (change rf_f _ _ (sx_uf _ 66 _ _, _))); refine rf_f_uf rfl ?_) | ((with_reducible (change rf_f _ _ _)); exact (fun _ _ => rfl)) | ((with_reducible (change rf_f _ _ (_, sx_ua _ _ _ _, _))); refine rf_f_ua ?_) | ((with_reducible (change rf_f _ _ _)); assumption) | ((with_reducible (change rf_f _ _ _)); refine rf_f_step (by assumption) rfl ?_) | ((with_reducible (change rf_f _ _ _)); refine rf_f_F (by assumption) rfl ?_) | ((with_reducible (change rf_A _ (sx_uf _ _ _ _, _))); refine rf_A_uf ?_) | ((with_reducible (change rf_A _ (_, sx_ua _ _ _ _, _))); refine rf_A_ua rfl ?_) | ((with_reducible (change rf_A _ _)); assumption) | ((with_reducible (change rf_A _ _)); refine rf_A_F (by assumption) rfl ?_) | ((with_reducible (change rf_ag _ _ _ _ _)); assumption) | ((with_reducible (change rf_ag _ _ _ _ _)); exact rf_ag_refl _ _ _ _) | ((with_reducible (change rf_ag _ _ _ _ (sx_uf _ _ _ _, _))); refine rf_ag_uf ?_) | ((with_reducible (change rf_ag _ _ _ _ (_, sx_ua _ _ _ _, _))); refine rf_ag_uo rfl ?_) | ((with_reducible (change rf_ag _ _ _ _ (_, sx_ua _ _ _ _, _))); refine rf_ag_ua (by (first | omega | (dsimp only at *; omega) | (simp only [sx_uf_if, sx_ua_if, sx_w_t, true_and, and_true, and_self, and_false, false_and, if_true, if_false, reduceIte] at *; omega) | rfl)) (by (first | omega | (dsimp only at *; omega) | (simp only [sx_uf_if, sx_ua_if, sx_w_t, true_and, and_true, and_self, and_false, false_and, if_true, if_false, reduceIte] at *; omega) | rfl)) ?_) | ((with_reducible (change rf_ag _ _ _ _ _)); refine rf_ag_F (by assumption) rfl ?_) | ((with_reducible (change rf_ag _ _ _ _ _)); refine rf_ag_trans (by assumption) (by (first | omega | (dsimp only at *; omega) | (simp only [sx_uf_if, sx_ua_if, sx_w_t, true_and, and_true, and_self, and_false, false_and, if_true, if_false, reduceIte] at *; omega) | rfl)) ?_) | fail)
  repeat' (first | (with_reducible assumption) | ((with_reducible (change cx_I (sx_uf _ _ _ _, _))); refine cx_I_uf rfl rfl ?_ ?_ ?_) | ((with_reducible (change cx_I (_, sx_ua _ _ _ _, _))); refine cx_I_ua rfl rfl ?_ ?_ ?_) | ((with_reducible (change cx_I (_, sx_ua _ 16 _ _, _))); refine cx_I_ari ?_ ?_ ?_) | ((with_reducible (change cx_I (sx_uf _ 11 6 _, _))); refine cx_I_ufA rfl ?_ ?_ ?_ ?_) | (with_reducible exact cx_F_refl _ _) | ((with_reducible (change cx_F _ _ (sx_uf _ _ _ _, _))); refine cx_F_uf rfl ?_) | ((with_reducible (change cx_F _ _ (_, sx_ua _ _ _ _, _))); refine cx_F_ua rfl ?_) | ((with_reducible (change cx_I (_, sx_cpy _ _ _ _ _ _, _))); refine cx_I_cpy rfl rfl rfl (by decide) ?_) | ((with_reducible (change cx_F _ _ (_, sx_cpy _ _ _ _ _ _, _))); refine cx_F_cpy rfl ?_) | ((with_reducible (change cx_F _ _ _)); refine cx_F_step (by assumption) rfl ?_) | ((with_reducible (change rf_f _ _ (sx_uf _ 66 _ _, _))); refine rf_f_uf rfl ?_) | ((with_reducible (change rf_f _ _ _)); exact (fun _ _ => rfl)) | ((with_reducible (change rf_f _ _ (_, sx_ua _ _ _ _, _))); refine rf_f_ua ?_) | ((with_reducible (change rf_f _ _ _)); assumption) | ((with_reducible (change rf_f _ _ _)); refine rf_f_step (by assumption) rfl ?_) | ((with_reducible (change rf_f _ _ _)); refine rf_f_F (by assumption) rfl ?_) | ((with_reducible (change rf_A _ (sx_uf _ _ _ _, _))); refine rf_A_uf ?_) | ((with_reducible (change rf_A _ (_, sx_ua _ _ _ _, _))); refine rf_A_ua rfl ?_) | ((with_reducible (change rf_A _ _)); assumption) | ((with_reducible (change rf_A _ _)); refine rf_A_F (by assumption) rfl ?_) | fail)
  all_goals (first | trivial | omega | (dsimp only at *; omega) | (simp only [sx_uf_if, sx_ua_if, sx_w_t, true_and, and_true, and_self, and_false, false_and, if_true, if_false, reduceIte] at *; omega) | (subst_vars; omega) | (subst_vars; simp only [sx_uf_if, sx_ua_if, sx_w_t, true_and, and_true, and_self, and_false, false_and, if_true, if_false, reduceIte] at *; omega) | (subst_vars; rfl) | (subst_vars; decide) | (simp only [sx_uf_if, sx_ua_if, sx_w_t, true_and, and_true, and_self, and_false, false_and, if_true, if_false, reduceIte]; done) | (subst_vars; simp only [sx_uf_if, sx_ua_if, sx_w_t, true_and, and_true, and_self, and_false, false_and, if_true, if_false, reduceIte]; done) | (refine rf_nm_mk ?_ ?_ ?_ <;> (simp only [sx_uf_if, sx_ua_if, sx_w_t, true_and, and_true, and_self, and_false, false_and, if_true, if_false, reduceIte] at *; omega)))

theorem c_r_name {sL : Nat} {sx : Nat → Int32} (hsL : sL ≤ 3072) (d : Nat) (hd : 2 ≤ d) : ∀ (a0 a1 a2 : Int) (s : sx_S) (K : Int → sx_S → Prop), cx_I s → (-2147483648 ≤ a0 ∧ a0 ≤ 2147483647) → (-2147483648 ≤ a1 ∧ a1 ≤ 2147483647) → (-1 ≤ a2 ∧ a2 ≤ 399999) → (s.1 66 71 ≤ 399999) → (∀ (z : Int) (t : sx_S), cx_I t → cx_F [(66, 66), (115, 117)] s t → (z = s.1 66 71) → (t.1 66 71 = s.1 66 71 + 1) → (rf_f [71] s t) → (rf_ag 115 117 (s.1 66 71) s t) → (rf_nm t z a0 a1 a2) → K z t) → sx_C sL sx d 184 [.inr (.inl 66), .inl a0, .inl a1, .inl a2] s K := by
  intro a0 a1 a2 s K hI p0 p1 p2 p3 hK
  obtain ⟨d, rfl⟩ : ∃ e, d = e + 2 := ⟨d - 2, by omega⟩
  exact sx_meth (wr := true) (n := 400) hsL (e := eX12_name) rfl (w_r_name (Q := fun _ _ _ => False)  hI p0 p1 p2 p3 hK)
end
section
/-! ===== the reference: types are compared; what a name means ===== -/
def rf_hx : rf_T → Nat
  | .leaf => 0
  | .inner _ _ _ x y => max (rf_hx x) (rf_hx y) + 1
theorem rf_hx_at : ∀ x : rf_T, rf_hx x + 1 ≤ rf_at x
  | .leaf => Nat.le_refl _
  | .inner _ _ _ x y => by
    have h1 := rf_hx_at x
    have h2 := rf_hx_at y
    have h3 := rf_at_pos x
    have h4 := rf_at_pos y
    unfold rf_hx rf_at
    omega
end
section
/-! ===== the reference: what a name means ===== -/
def rf_t5 (s : sx_S) (t : Int) : Prop := ∃ x : rf_T, rf_is s x t ∧ rf_at x ≤ 5
def rf_vt (s : sx_S) (v : Int) (x : rf_T) : Prop := (0 ≤ v ∧ v < s.1 66 58) ∧ rf_is s x (s.2.1 106 v.toNat)
/-- constants, unknowns and the variables around have types of at most five atoms -/
def rf_CK (s : sx_S) : Prop := ∀ k : Nat, ((k : Int) < s.1 66 42 → rf_t5 s (s.2.1 96 k)) ∧ ((k : Int) < s.1 66 45 → rf_t5 s (s.2.1 123 k)) ∧ ((k : Int) < s.1 66 34 → (0 ≤ s.2.1 94 k ∧ s.2.1 94 k < s.1 66 58) ∧ rf_t5 s (s.2.1 106 (s.2.1 94 k).toNat))
/-- what node j has at its head is of this type -/
def rf_hd (s : sx_S) (j : Nat) (x : rf_T) : Prop := rf_at x ≤ 5 ∧ ((s.2.1 83 j = 2 ∧ rf_vt s (s.2.1 82 j) x) ∨ (s.2.1 83 j = 1 ∧ (0 ≤ s.2.1 82 j ∧ s.2.1 82 j < s.1 66 42) ∧ rf_is s x (s.2.1 96 (s.2.1 82 j).toNat)) ∨ (s.2.1 83 j = 3 ∧ (0 ≤ s.2.1 82 j ∧ s.2.1 82 j < s.1 66 45) ∧ rf_is s x (s.2.1 123 (s.2.1 82 j).toNat)))
def rf_mz (s : sx_S) (r z : Int) : Prop := ∃ x : rf_T, rf_is s x z ∧ rf_hd s r.toNat x ∧ (s.2.1 83 r.toNat = 2 → ∃ k : Nat, (k : Int) < s.1 66 34 ∧ s.2.1 82 r.toNat = s.2.1 94 k)
/-- of the arrays 82 .. 84 only the row r has changed -/
def rf_ax (r : Int) (s t : sx_S) : Prop := ∀ p j : Nat, 82 ≤ p → p ≤ 84 → (j : Int) ≠ r → t.2.1 p j = s.2.1 p j
theorem rf_ax_refl (r : Int) (s : sx_S) : rf_ax r s s := fun _ _ _ _ _ => rfl
theorem rf_ax_uf {r : Int} {s : sx_S} {F : Nat → Nat → Int} {B : (Nat → Nat → Int) × (Nat → Nat → Int) × Nat} {p k : Nat} {v : Int} (h : rf_ax r s (F, B)) : rf_ax r s (sx_uf F p k v, B) := h
theorem rf_ax_ua {r : Int} {s : sx_S} {F A : Nat → Nat → Int} {B : (Nat → Nat → Int) × Nat} {p : Nat} {k v : Int} (hk : k = r) (hk0 : 0 ≤ k) (h : rf_ax r s (F, A, B)) : rf_ax r s (F, sx_ua A p k.toNat v, B) := by
  intro q j h1 h2 h3
  show sx_ua A p k.toNat v q j = _
  rw [sx_ua_if]
  split
  · rw [if_neg (by omega)]
    exact h q j h1 h2 h3
  · exact h q j h1 h2 h3
theorem rf_ax_F {V : List (Nat × Nat)} {r : Int} {s t u : sx_S} (hF : cx_F V t u) (hV : (cx_outb V 82 && cx_outb V 83 && cx_outb V 84) = true) (h : rf_ax r s t) : rf_ax r s u := by
  simp only [Bool.and_eq_true] at hV
  intro p j a b c
  have hp : p = 82 ∨ p = 83 ∨ p = 84 := by omega
  rcases hp with rfl | rfl | rfl
  · rw [(hF.same 82 hV.1.1).2]
    exact h 82 j a b c
  · rw [(hF.same 83 hV.1.2).2]
    exact h 83 j a b c
  · rw [(hF.same 84 hV.2).2]
    exact h 84 j a b c
section RFMZ
variable {s : sx_S} {B : (Nat → Nat → Int) × Nat} {r v k z : Int}
theorem rf_is_82 {w : Int} {n : Nat} {x : rf_T} (h : rf_is s x z) : rf_is (s.1, sx_ua (sx_ua s.2.1 83 n w) 82 n v, B) x z := by
  unfold rf_is
  dsimp only
  rw [sx_ua_ne (by decide), sx_ua_ne (by decide), sx_ua_ne (by decide), sx_ua_ne (by decide)]
  exact h
theorem rf_mz_v (hC : rf_CK s) (h0 : 0 ≤ k) (h1 : k < s.1 66 34) (hv : v = s.2.1 94 k.toNat) (hz : z = s.2.1 106 v.toNat) : rf_mz (s.1, sx_ua (sx_ua s.2.1 83 r.toNat 2) 82 r.toNat v, B) r z := by
  obtain ⟨h2, x, h3, h4⟩ := (hC k.toNat).2.2 (by omega)
  rw [← hv] at h2 h3
  refine ⟨x, rf_is_82 (by rw [hz]; exact h3), ⟨h4, Or.inl ⟨?_, ?_⟩⟩, fun _ => ⟨k.toNat, by dsimp only; omega, ?_⟩⟩
  · dsimp only
    rw [sx_ua_ne (by decide), sx_ua_same]
    exact if_pos rfl
  · have e : (sx_ua (sx_ua s.2.1 83 r.toNat 2) 82 r.toNat v) 82 r.toNat = v := by
      rw [sx_ua_same]
      exact if_pos rfl
    show rf_vt _ ((sx_ua (sx_ua s.2.1 83 r.toNat 2) 82 r.toNat v) 82 r.toNat) x
    rw [e]
    refine ⟨h2, rf_is_82 ?_⟩
    dsimp only
    rw [sx_ua_ne (by decide), sx_ua_ne (by decide)]
    exact h3
  · dsimp only
    rw [sx_ua_same, sx_ua_ne (by decide), sx_ua_ne (by decide), hv]
    exact if_pos rfl
theorem rf_mz_c (hC : rf_CK s) (h0 : 0 ≤ v) (h1 : v < s.1 66 42) (hz : z = s.2.1 96 v.toNat) : rf_mz (s.1, sx_ua (sx_ua s.2.1 83 r.toNat 1) 82 r.toNat v, B) r z := by
  obtain ⟨x, h3, h4⟩ := (hC v.toNat).1 (by omega)
  refine ⟨x, rf_is_82 (by rw [hz]; exact h3), ⟨h4, Or.inr (Or.inl ⟨?_, ?_⟩)⟩, fun q => absurd q (by dsimp only; rw [sx_ua_ne (by decide), sx_ua_same]; dsimp only; rw [if_pos rfl]; decide)⟩
  · dsimp only
    rw [sx_ua_ne (by decide), sx_ua_same]
    exact if_pos rfl
  · have e : (sx_ua (sx_ua s.2.1 83 r.toNat 1) 82 r.toNat v) 82 r.toNat = v := by
      rw [sx_ua_same]
      exact if_pos rfl
    dsimp only
    rw [e]
    refine ⟨⟨h0, h1⟩, rf_is_82 ?_⟩
    rw [sx_ua_ne (by decide), sx_ua_ne (by decide)]
    exact h3
theorem rf_mz_m (hC : rf_CK s) (h0 : 0 ≤ v) (h1 : v < s.1 66 45) (hz : z = s.2.1 123 v.toNat) : rf_mz (s.1, sx_ua (sx_ua s.2.1 83 r.toNat 3) 82 r.toNat v, B) r z := by
  obtain ⟨x, h3, h4⟩ := (hC v.toNat).2.1 (by omega)
  refine ⟨x, rf_is_82 (by rw [hz]; exact h3), ⟨h4, Or.inr (Or.inr ⟨?_, ?_⟩)⟩, fun q => absurd q (by dsimp only; rw [sx_ua_ne (by decide), sx_ua_same]; dsimp only; rw [if_pos rfl]; decide)⟩
  · dsimp only
    rw [sx_ua_ne (by decide), sx_ua_same]
    exact if_pos rfl
  · have e : (sx_ua (sx_ua s.2.1 83 r.toNat 3) 82 r.toNat v) 82 r.toNat = v := by
      rw [sx_ua_same]
      exact if_pos rfl
    dsimp only
    rw [e]
    refine ⟨⟨h0, h1⟩, rf_is_82 ?_⟩
    rw [sx_ua_ne (by decide), sx_ua_ne (by decide)]
    exact h3
end RFMZ
end
