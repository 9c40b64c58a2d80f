/-! ===== the reference: types, trees, names (pure). The trees are the library's own binary trees with a number and a key at each fork ===== -/
/-- the shape of a type -/
abbrev rf_T : Type := Std.DTreeMap.Internal.Impl Unit (fun _ => Unit)
abbrev rf_b : rf_T := .leaf
abbrev rf_a (x y : rf_T) : rf_T := .inner 0 () () x y
/-- atoms -/
def rf_at : rf_T → Nat
  | .leaf => 1
  | .inner _ _ _ x y => rf_at x + rf_at y
/-- what it wants -/
def rf_args : rf_T → List rf_T
  | .leaf => []
  | .inner _ _ _ x y => x :: rf_args y
theorem rf_at_pos : ∀ x : rf_T, 1 ≤ rf_at x
  | .leaf => Nat.le_refl _
  | .inner _ _ _ x y => by
    have := rf_at_pos x
    unfold rf_at
    omega
theorem rf_args_at : ∀ x : rf_T, (rf_args x).length + 1 ≤ rf_at x
  | .leaf => Nat.le_refl _
  | .inner _ _ _ x y => by
    have := rf_at_pos x
    have := rf_args_at y
    unfold rf_at rf_args
    rw [List.length_cons]
    omega
/-- number t is of this shape -/
def rf_ty (L R : Nat → Int) (N : Int) : rf_T → Int → Prop
  | .leaf, t => 0 ≤ t ∧ t < 2
  | .inner n _ _ x y, t => (n = 0 ∧ 2 ≤ t ∧ t < N) ∧ rf_ty L R N x (L t.toNat) ∧ rf_ty L R N y (R t.toNat)
theorem rf_ty_inj {L R : Nat → Int} {N : Int} : ∀ {x y : rf_T} {t : Int}, rf_ty L R N x t → rf_ty L R N y t → x = y
  | .leaf, .leaf, _, _, _ => rfl
  | .leaf, .inner _ _ _ _ _, _, h, g => by
    have := h.2
    have := g.1.2.1
    omega
  | .inner _ _ _ _ _, .leaf, _, h, g => by
    have := g.2
    have := h.1.2.1
    omega
  | .inner n _ _ _ _, .inner m _ _ _ _, _, h, g => by
    rw [rf_ty_inj h.2.1 g.2.1, rf_ty_inj h.2.2 g.2.2, h.1.1, g.1.1]
theorem rf_ty_mono {L R L' R' : Nat → Int} {N N' : Int} (hL : ∀ j : Nat, (j : Int) < N → L' j = L j ∧ R' j = R j) (hN : N ≤ N') : ∀ {x : rf_T} {t : Int}, rf_ty L R N x t → rf_ty L' R' N' x t
  | .leaf, _, h => h
  | .inner _ _ _ x y, t, h => by
    obtain ⟨⟨h0, h1, h2⟩, h3, h4⟩ := h
    obtain ⟨e1, e2⟩ := hL t.toNat (by omega)
    refine ⟨⟨h0, h1, by omega⟩, ?_, ?_⟩
    · rw [e1]
      exact rf_ty_mono hL hN h3
    · rw [e2]
      exact rf_ty_mono hL hN h4
theorem rf_ty_lo {L R : Nat → Int} {N : Int} : ∀ {x : rf_T} {t : Int}, rf_ty L R N x t → 0 ≤ t
  | .leaf, _, h => h.1
  | .inner _ _ _ _ _, _, h => by
    have := h.1.2.1
    omega
theorem rf_ty_hi {L R : Nat → Int} {N : Int} (hN : 2 ≤ N) : ∀ {x : rf_T} {t : Int}, rf_ty L R N x t → t < N
  | .leaf, _, h => by
    have := h.2
    omega
  | .inner _ _ _ _ _, _, h => h.1.2.2
/-- a small number is a basic type, a large one an arrow -/
theorem rf_ty_b {L R : Nat → Int} {N : Int} : ∀ {x : rf_T} {t : Int}, rf_ty L R N x t → t < 2 → x = rf_b
  | .leaf, _, _, _ => rfl
  | .inner _ _ _ _ _, _, h, g => by
    have := h.1.2.1
    omega
theorem rf_ty_a {L R : Nat → Int} {N : Int} : ∀ {x : rf_T} {t : Int}, rf_ty L R N x t → 2 ≤ t → ∃ y z, x = rf_a y z ∧ rf_ty L R N y (L t.toNat) ∧ rf_ty L R N z (R t.toNat)
  | .leaf, _, h, g => by
    have := h.2
    omega
  | .inner n _ _ y z, _, h, _ => ⟨y, z, by rw [h.1.1], h.2⟩

/-! names: 0 (f, t): f is called t, then the others; n + 1: first the ones, then the others -/
abbrev rf_Y : Type := Std.DTreeMap.Internal.Impl (Int × Int) (fun _ => Unit)
abbrev rf_one (f t : Int) (r : rf_Y) : rf_Y := .inner 0 (f, t) () .leaf r
abbrev rf_app (a r : rf_Y) : rf_Y := .inner 1 (0, 0) () a r
def rf_look : rf_Y → Int → Int
  | .leaf, x => x
  | .inner 0 k _ _ r, x => if k.1 = x then k.2 else rf_look r x
  | .inner (_ + 1) _ _ a r, x => rf_look r (rf_look a x)
def rf_dp : rf_Y → Nat
  | .leaf => 0
  | .inner 0 _ _ _ r => rf_dp r
  | .inner (_ + 1) _ _ a r => max (rf_dp a + 1) (rf_dp r)
def rf_by (F T R : Nat → Int) (N : Int) : rf_Y → Int → Prop
  | .leaf, i => i = -1
  | .inner 0 k _ _ r, i => (0 ≤ i ∧ i < N ∧ k.1 ≠ -1) ∧ F i.toNat = k.1 ∧ T i.toNat = k.2 ∧ rf_by F T R N r (R i.toNat)
  | .inner (_ + 1) _ _ a r, i => (0 ≤ i ∧ i < N) ∧ F i.toNat = -1 ∧ rf_by F T R N a (T i.toNat) ∧ rf_by F T R N r (R i.toNat)
theorem rf_by_mono {F T R F' T' R' : Nat → Int} {N N' : Int} (hL : ∀ j : Nat, (j : Int) < N → F' j = F j ∧ T' j = T j ∧ R' j = R j) (hN : N ≤ N') : ∀ {y : rf_Y} {i : Int}, rf_by F T R N y i → rf_by F' T' R' N' y i
  | .leaf, _, h => h
  | .inner 0 k _ _ r, i, h => by
    obtain ⟨⟨h1, h2, h3⟩, h4, h5, h6⟩ := h
    obtain ⟨e1, e2, e3⟩ := hL i.toNat (by omega)
    refine ⟨⟨h1, by omega, h3⟩, e1.trans h4, e2.trans h5, ?_⟩
    rw [e3]
    exact rf_by_mono hL hN h6
  | .inner (_ + 1) _ _ a r, i, h => by
    obtain ⟨⟨h1, h2⟩, h4, h5, h6⟩ := h
    obtain ⟨e1, e2, e3⟩ := hL i.toNat (by omega)
    refine ⟨⟨h1, by omega⟩, e1.trans h4, ?_, ?_⟩
    · rw [e2]
      exact rf_by_mono hL hN h5
    · rw [e3]
      exact rf_by_mono hL hN h6
theorem rf_by_hi {F T R : Nat → Int} {N : Int} : ∀ {y : rf_Y} {i : Int}, rf_by F T R N y i → -1 ≤ i ∧ (i < N ∨ i = -1)
  | .leaf, _, h => ⟨by rw [h]; exact Int.le_refl _, Or.inr h⟩
  | .inner 0 _ _ _ _, i, h => ⟨by have := h.1.1; omega, Or.inl h.1.2.1⟩
  | .inner (_ + 1) _ _ _ _, i, h => ⟨by have := h.1.1; omega, Or.inl h.1.2⟩
/-! trees of nodes: number, (kind, ref), first part, next -/
abbrev rf_N : Type := Std.DTreeMap.Internal.Impl (Int × Int) (fun _ => Unit)
abbrev rf_n (j : Nat) (k r : Int) (f x : rf_N) : rf_N := .inner j (k, r) () f x
def rf_idx : rf_N → List Nat
  | .leaf => []
  | .inner j _ _ f x => j :: (rf_idx f ++ rf_idx x)
def rf_nd (K R F X : Nat → Int) (N : Int) : rf_N → Int → Prop
  | .leaf, i => i = -1
  | .inner j k _ f x, i => (i = (j : Int) ∧ (j : Int) < N) ∧ (K j = k.1 ∧ R j = k.2) ∧ rf_nd K R F X N f (F j) ∧ rf_nd K R F X N x (X j)
theorem rf_nd_mono {K R F X K' R' F' X' : Nat → Int} {N N' : Int} (hN : N ≤ N') : ∀ {t : rf_N} {i : Int}, (∀ j ∈ rf_idx t, K' j = K j ∧ R' j = R j ∧ F' j = F j ∧ X' j = X j) → rf_nd K R F X N t i → rf_nd K' R' F' X' N' t i
  | .leaf, _, _, h => h
  | .inner j k _ f x, i, hq, h => by
    obtain ⟨⟨h1, h2⟩, ⟨h3, h4⟩, h5, h6⟩ := h
    obtain ⟨e1, e2, e3, e4⟩ := hq j (List.mem_cons_self)
    refine ⟨⟨h1, by omega⟩, ⟨e1.trans h3, e2.trans h4⟩, ?_, ?_⟩
    · rw [e3]
      exact rf_nd_mono hN (fun q hj => hq q (List.mem_cons_of_mem _ (List.mem_append_left _ hj))) h5
    · rw [e4]
      exact rf_nd_mono hN (fun q hj => hq q (List.mem_cons_of_mem _ (List.mem_append_right _ hj))) h6
theorem rf_nd_lt {K R F X : Nat → Int} {N : Int} : ∀ {t : rf_N} {i : Int}, rf_nd K R F X N t i → ∀ j ∈ rf_idx t, (j : Int) < N
  | .leaf, _, _, j, hj => absurd hj List.not_mem_nil
  | .inner j k _ f x, i, h, q, hq => by
    rcases List.mem_cons.mp hq with rfl | hq
    · exact h.1.2
    · rcases List.mem_append.mp hq with hq | hq
      · exact rf_nd_lt h.2.2.1 q hq
      · exact rf_nd_lt h.2.2.2 q hq
/-- all that lies below N is as it was -/
theorem rf_nd_up {K R F X K' R' F' X' : Nat → Int} {N N' : Int} (hN : N ≤ N') (hq : ∀ j : Nat, (j : Int) < N → K' j = K j ∧ R' j = R j ∧ F' j = F j ∧ X' j = X j) {t : rf_N} {i : Int} (h : rf_nd K R F X N t i) : rf_nd K' R' F' X' N' t i :=
  rf_nd_mono hN (fun j hj => hq j (rf_nd_lt h j hj)) h
theorem rf_nd_rng {K R F X : Nat → Int} {N : Int} : ∀ {t : rf_N} {i : Int}, rf_nd K R F X N t i → -1 ≤ i ∧ (i = -1 ∨ i < N)
  | .leaf, _, h => ⟨by rw [h]; exact Int.le_refl _, Or.inl h⟩
  | .inner j _ _ _ _, i, h => by
    have := h.1
    exact ⟨by omega, Or.inr (by omega)⟩
theorem rf_nd_nil {K R F X : Nat → Int} {N : Int} : ∀ {t : rf_N} {i : Int}, rf_nd K R F X N t i → i = -1 → t = .leaf
  | .leaf, _, _, _ => rfl
  | .inner j _ _ _ _, i, h, e => by
    have := h.1
    omega
theorem rf_nd_cons {K R F X : Nat → Int} {N : Int} : ∀ {t : rf_N} {i : Int}, rf_nd K R F X N t i → i ≠ -1 → ∃ f x, t = rf_n i.toNat (K i.toNat) (R i.toNat) f x ∧ 0 ≤ i ∧ i < N ∧ rf_nd K R F X N f (F i.toNat) ∧ rf_nd K R F X N x (X i.toNat)
  | .leaf, _, h, e => absurd h e
  | .inner j (k, r) _ f x, i, h, e => by
    obtain ⟨⟨h1, h2⟩, ⟨h3, h4⟩, h5, h6⟩ := h
    have e1 : i.toNat = j := by omega
    rw [e1]
    refine ⟨f, x, by rw [h3, h4], by omega, by omega, h5, h6⟩
def rf_snoc : rf_N → rf_N → rf_N
  | .leaf, p => p
  | .inner j k _ f x, p => .inner j k () f (rf_snoc x p)
def rf_last : rf_N → Nat → Nat
  | .leaf, d => d
  | .inner j _ _ _ x, _ => rf_last x j
theorem rf_last_mem : ∀ (t : rf_N) (d : Nat), t ≠ .leaf → rf_last t d ∈ rf_idx t
  | .leaf, _, h => absurd rfl h
  | .inner j k _ f .leaf, d, _ => List.mem_cons_self
  | .inner j k _ f (.inner j' k' u' f' x'), d, _ => by
    have := rf_last_mem (.inner j' k' u' f' x') j (fun h => by cases h)
    exact List.mem_cons_of_mem _ (List.mem_append_right _ this)
theorem rf_idx_snoc : ∀ (t p : rf_N) (j : Nat), j ∈ rf_idx (rf_snoc t p) ↔ j ∈ rf_idx t ∨ j ∈ rf_idx p
  | .leaf, p, j => by
    show j ∈ rf_idx p ↔ _
    exact ⟨Or.inr, fun h => h.elim (fun q => absurd q List.not_mem_nil) id⟩
  | .inner i k _ f x, p, j => by
    have := rf_idx_snoc x p j
    show j ∈ i :: (rf_idx f ++ rf_idx (rf_snoc x p)) ↔ j ∈ i :: (rf_idx f ++ rf_idx x) ∨ _
    simp only [List.mem_cons, List.mem_append, this]
    constructor
    · rintro (h | h | h | h)
      · exact Or.inl (Or.inl h)
      · exact Or.inl (Or.inr (Or.inl h))
      · exact Or.inl (Or.inr (Or.inr h))
      · exact Or.inr h
    · rintro ((h | h | h) | h)
      · exact Or.inl h
      · exact Or.inr (Or.inl h)
      · exact Or.inr (Or.inr (Or.inl h))
      · exact Or.inr (Or.inr (Or.inr h))
theorem rf_nodup_snoc : ∀ (t p : rf_N), (rf_idx t).Nodup → (rf_idx p).Nodup → (∀ j, j ∈ rf_idx t → j ∉ rf_idx p) → (rf_idx (rf_snoc t p)).Nodup
  | .leaf, p, _, h, _ => h
  | .inner i k _ f x, p, h, hp, hd => by
    have h1 : i ∉ rf_idx f ++ rf_idx x := (List.nodup_cons.mp h).1
    have h2 := (List.nodup_cons.mp h).2
    obtain ⟨h3, h4, h5⟩ := List.nodup_append.mp h2
    have ih := rf_nodup_snoc x p h4 hp (fun j hj => hd j (List.mem_cons_of_mem _ (List.mem_append_right _ hj)))
    refine List.nodup_cons.mpr ⟨fun q => ?_, List.nodup_append.mpr ⟨h3, ih, fun a ha b hb e => ?_⟩⟩
    · rcases List.mem_append.mp q with q | q
      · exact h1 (List.mem_append_left _ q)
      · rcases (rf_idx_snoc x p i).mp q with q | q
        · exact h1 (List.mem_append_right _ q)
        · exact hd i List.mem_cons_self q
    · subst e
      rcases (rf_idx_snoc x p a).mp hb with q | q
      · exact h5 a ha a q rfl
      · exact hd a (List.mem_cons_of_mem _ (List.mem_append_left _ ha)) q
/-- a part put behind the last -/
theorem rf_nd_snoc {K R F X X' : Nat → Int} {N p : Int} {tp : rf_N} (hp : rf_nd K R F X' N tp p) : ∀ {t : rf_N} {i : Int} {d : Nat}, t ≠ .leaf → (rf_idx t).Nodup → (∀ j, j ≠ rf_last t d → X' j = X j) → X' (rf_last t d) = p → rf_nd K R F X N t i → rf_nd K R F X' N (rf_snoc t tp) i
  | .leaf, _, _, h, _, _, _, _ => absurd rfl h
  | .inner j k _ f .leaf, i, d, _, hn, hX, hl, h => by
    obtain ⟨h1, h2, h3, h4⟩ := h
    have hj : j ∉ rf_idx f := fun q => (List.nodup_cons.mp hn).1 (List.mem_append_left _ q)
    refine ⟨h1, h2, rf_nd_mono (Int.le_refl _) (fun q hq => ⟨rfl, rfl, rfl, hX q (fun e => hj (by have e1 : q = j := e; rw [← e1]; exact hq))⟩) h3, ?_⟩
    have hl' : X' j = p := hl
    rw [hl']
    exact hp
  | .inner j k _ f (.inner j' k' u' f' x'), i, d, _, hn, hX, hl, h => by
    obtain ⟨h1, h2, h3, h4⟩ := h
    obtain ⟨n1, n2⟩ := List.nodup_cons.mp hn
    obtain ⟨n3, n4, n5⟩ := List.nodup_append.mp n2
    have hm := rf_last_mem (.inner j' k' u' f' x') j (fun h => by cases h)
    refine ⟨h1, h2, rf_nd_mono (Int.le_refl _) (fun q hq => ⟨rfl, rfl, rfl, hX q (fun e => n5 q hq _ hm e)⟩) h3, ?_⟩
    have hX' : X' j = X j := hX j (fun e => n1 (e ▸ List.mem_append_right _ hm))
    rw [hX']
    exact rf_nd_snoc hp (t := .inner j' k' u' f' x') (d := j) (fun h => by cases h) n4 hX hl h4
/-! typed trees: one node, and a row of ARGs; H: the type of a head (or of a LAM's variable), P: what is said of what is left -/
def rf_gt (H : Nat → Int → Int → rf_T → Prop) (P : Nat → rf_T → Prop) : rf_N → (rf_T → Prop) × (rf_T → rf_T → Prop)
  | .leaf => (fun _ => False, fun u t => u = t)
  | .inner j k _ f x => (fun t => (k.1 = 0 ∧ ∃ A B, t = rf_a A B ∧ H j k.1 k.2 A ∧ (rf_gt H P f).1 B) ∨ (k.1 ≠ 0 ∧ ∃ u, H j k.1 k.2 u ∧ (rf_gt H P f).2 u t ∧ P j t), fun u t => ∃ A B, u = rf_a A B ∧ ((k.1 = 0 ∧ ∃ A' B', A = rf_a A' B' ∧ H j k.1 k.2 A' ∧ (rf_gt H P f).1 B') ∨ (k.1 ≠ 0 ∧ ∃ u, H j k.1 k.2 u ∧ (rf_gt H P f).2 u A ∧ P j A)) ∧ (rf_gt H P x).2 B t)
theorem rf_gt_2 {H : Nat → Int → Int → rf_T → Prop} {P : Nat → rf_T → Prop} {j : Nat} {k r : Int} {f x : rf_N} {u t : rf_T} : (rf_gt H P (rf_n j k r f x)).2 u t ↔ ∃ A B, u = rf_a A B ∧ (rf_gt H P (rf_n j k r f x)).1 A ∧ (rf_gt H P x).2 B t := Iff.rfl
theorem rf_gt_mono {H H' : Nat → Int → Int → rf_T → Prop} {P P' : Nat → rf_T → Prop} : ∀ {n : rf_N}, (∀ j ∈ rf_idx n, (∀ k r u, H j k r u → H' j k r u) ∧ ∀ t, P j t → P' j t) → (∀ t, (rf_gt H P n).1 t → (rf_gt H' P' n).1 t) ∧ (∀ u t, (rf_gt H P n).2 u t → (rf_gt H' P' n).2 u t)
  | .leaf, _ => ⟨fun _ h => h, fun _ _ h => h⟩
  | .inner j k v f x, hM => by
    have hf := rf_gt_mono (n := f) (fun q hq => hM q (List.mem_cons_of_mem _ (List.mem_append_left _ hq)))
    have hx := rf_gt_mono (n := x) (fun q hq => hM q (List.mem_cons_of_mem _ (List.mem_append_right _ hq)))
    have hj := hM j List.mem_cons_self
    have h1 : ∀ t, (rf_gt H P (.inner j k v f x)).1 t → (rf_gt H' P' (.inner j k v f x)).1 t := by
      rintro t (⟨e, A, B, q1, q2, q3⟩ | ⟨e, u, q1, q2, q3⟩)
      · exact Or.inl ⟨e, A, B, q1, hj.1 _ _ _ q2, hf.1 _ q3⟩
      · exact Or.inr ⟨e, u, hj.1 _ _ _ q1, hf.2 _ _ q2, hj.2 _ q3⟩
    refine ⟨h1, ?_⟩
    rintro u t ⟨A, B, q1, q2, q3⟩
    exact ⟨A, B, q1, h1 A q2, hx.2 _ _ q3⟩
theorem rf_gt_snoc {H : Nat → Int → Int → rf_T → Prop} {P : Nat → rf_T → Prop} {p : rf_N} : ∀ {n : rf_N} {u v t : rf_T}, (rf_gt H P n).2 u v → (rf_gt H P p).2 v t → (rf_gt H P (rf_snoc n p)).2 u t
  | .leaf, u, v, t, h, g => by
    have e : u = v := h
    rw [e]
    exact g
  | .inner j k _ f x, u, v, t, h, g => by
    obtain ⟨A, B, h1, h2, h3⟩ := h
    exact ⟨A, B, h1, h2, rf_gt_snoc h3 g⟩
/-- which unknowns stand in it -/
def rf_oc : rf_N → (Int → Prop) × (Int → Prop)
  | .leaf => (fun _ => False, fun _ => False)
  | .inner _ k _ f x => (fun m => (k.1 = 3 ∧ m = k.2) ∨ (k.1 = 0 ∧ (rf_oc f).1 m) ∨ ((k.1 = 1 ∨ k.1 = 2) ∧ (rf_oc f).2 m), fun m => ((k.1 = 3 ∧ m = k.2) ∨ (k.1 = 0 ∧ (rf_oc f).1 m) ∨ ((k.1 = 1 ∨ k.1 = 2) ∧ (rf_oc f).2 m)) ∨ (rf_oc x).2 m)
/-- its height: an unknown counts 5 -/
def rf_wh : rf_N → Nat × Nat
  | .leaf => (0, 0)
  | .inner _ k _ f x => (if k.1 = 3 then 5 else if k.1 = 0 then 1 + (rf_wh f).1 else 1 + (rf_wh f).2, max (if k.1 = 3 then 5 else if k.1 = 0 then 1 + (rf_wh f).1 else 1 + (rf_wh f).2) (rf_wh x).2)
theorem rf_oc_snoc (p : rf_N) (m : Int) : ∀ n : rf_N, (rf_oc (rf_snoc n p)).2 m ↔ (rf_oc n).2 m ∨ (rf_oc p).2 m
  | .leaf => ⟨Or.inr, fun h => h.elim (fun q => q.elim) id⟩
  | .inner j k _ f x => by
    have := rf_oc_snoc p m x
    show _ ∨ (rf_oc (rf_snoc x p)).2 m ↔ (_ ∨ (rf_oc x).2 m) ∨ _
    rw [this]
    exact (or_assoc).symm
theorem rf_wh_snoc (p : rf_N) : ∀ n : rf_N, (rf_wh (rf_snoc n p)).2 = max (rf_wh n).2 (rf_wh p).2
  | .leaf => (Nat.zero_max _).symm
  | .inner j k _ f x => by
    have := rf_wh_snoc p x
    show max _ (rf_wh (rf_snoc x p)).2 = max (max _ (rf_wh x).2) _
    rw [this, Nat.max_assoc]
/-! ways from unknown to unknown -/
abbrev rf_rc (E : Int → Int → Prop) : Int → Int → Prop := Relation.TransGen E
theorem rf_rc_trans {E : Int → Int → Prop} {a b c : Int} (h1 : rf_rc E a b) (h2 : rf_rc E b c) : rf_rc E a c := by
  induction h2 with
  | single h => exact .tail h1 h
  | tail _ h ih => exact .tail ih h
theorem rf_rc_mono {E E' : Int → Int → Prop} (h : ∀ a b, E a b → E' a b) {a b : Int} (h1 : rf_rc E a b) : rf_rc E' a b := by
  induction h1 with
  | single q => exact .single (h _ _ q)
  | tail _ q ih => exact .tail ih (h _ _ q)
/-- no way out of m: no way from m on -/
theorem rf_rc_out {E : Int → Int → Prop} {m : Int} (hm : ∀ b, ¬ E m b) {b : Int} (h : rf_rc E m b) : False := by
  induction h with
  | single q => exact hm _ q
  | tail _ _ ih => exact ih
theorem rf_rc_add {E E' : Int → Int → Prop} {m : Int} {S : Int → Prop} (hE : ∀ a b, E' a b → E a b ∨ (a = m ∧ S b)) (hS : ∀ b, S b → b ≠ m ∧ ¬ rf_rc E b m) {a b : Int} (h : rf_rc E' a b) : rf_rc E a b ∨ ((a = m ∨ rf_rc E a m) ∧ ∃ c, S c ∧ (b = c ∨ rf_rc E c b)) := by
  induction h with
  | single q =>
    rcases hE _ _ q with q | ⟨q1, q2⟩
    · exact Or.inl (.single q)
    · exact Or.inr ⟨Or.inl q1, _, q2, Or.inl rfl⟩
  | tail _ q ih =>
    rcases hE _ _ q with q | ⟨q1, q2⟩
    · rcases ih with ih | ⟨i1, c, i2, i3⟩
      · exact Or.inl (.tail ih q)
      · refine Or.inr ⟨i1, c, i2, Or.inr ?_⟩
        rcases i3 with rfl | i3
        · exact .single q
        · exact .tail i3 q
    · subst q1
      rcases ih with ih | ⟨i1, c, i2, i3⟩
      · exact Or.inr ⟨Or.inr ih, _, q2, Or.inl rfl⟩
      · rcases i3 with i3 | i3
        · exact absurd i3.symm (hS c i2).1
        · exact absurd i3 (hS c i2).2
theorem rf_rc_acy {E E' : Int → Int → Prop} {m : Int} {S : Int → Prop} (hE : ∀ a b, E' a b → E a b ∨ (a = m ∧ S b)) (hS : ∀ b, S b → b ≠ m ∧ ¬ rf_rc E b m) (hA : ∀ a, ¬ rf_rc E a a) (a : Int) : ¬ rf_rc E' a a := by
  intro h
  rcases rf_rc_add hE hS h with h | ⟨h1, c, h2, h3⟩
  · exact hA a h
  · have hc := hS c h2
    rcases h1 with rfl | h1
    · rcases h3 with h3 | h3
      · exact hc.1 h3.symm
      · exact hc.2 h3
    · rcases h3 with rfl | h3
      · exact hc.2 h1
      · exact hc.2 (rf_rc_trans h3 h1)
/-- ways to m0 do not come from edges to a new unknown -/
theorem rf_rc_keep {E E' : Int → Int → Prop} {m h m0 : Int} (hE : ∀ a b, E' a b → E a b ∨ (a = m ∧ b = h)) (hh : ∀ b, ¬ E h b) (hm : h ≠ m) (h0 : h ≠ m0) {a : Int} (q : rf_rc E' a m0) : rf_rc E a m0 := by
  rcases rf_rc_add (S := fun b => b = h) hE (fun b e => by subst e; exact ⟨hm, fun z => rf_rc_out hh z⟩) q with q | ⟨_, c, rfl, q⟩
  · exact q
  · rcases q with q | q
    · exact absurd q.symm h0
    · exact (rf_rc_out hh q).elim
/-! sums -/
def rf_sum (f : Nat → Nat) : Nat → Nat
  | 0 => 0
  | n + 1 => rf_sum f n + f n
def rf_lsum (f : Nat → Nat) : List Nat → Nat
  | [] => 0
  | x :: l => f x + rf_lsum f l
theorem rf_lsum_erase (f : Nat → Nat) {x : Nat} : ∀ {l : List Nat}, x ∈ l → rf_lsum f l = f x + rf_lsum f (l.erase x)
  | [], h => absurd h List.not_mem_nil
  | y :: l, h => by
    by_cases e : y = x
    · subst e
      rw [List.erase_cons_head]
      rfl
    · rw [List.erase_cons_tail (by simpa using e)]
      have := rf_lsum_erase f (l := l) ((List.mem_cons.mp h).resolve_left (fun q => e q.symm))
      show f y + rf_lsum f l = f x + (f y + rf_lsum f (l.erase x))
      omega
theorem rf_lsum_le (f : Nat → Nat) : ∀ (n : Nat) (l : List Nat), l.Nodup → (∀ x ∈ l, x < n) → rf_lsum f l ≤ rf_sum f n
  | 0, [], _, _ => Nat.le_refl _
  | 0, x :: l, _, h => absurd (h x List.mem_cons_self) (Nat.not_lt_zero _)
  | n + 1, l, hn, h => by
    unfold rf_sum
    by_cases e : n ∈ l
    · rw [rf_lsum_erase f e]
      have := rf_lsum_le f n (l.erase n) (hn.erase n) (fun x hx => by
        have h1 := h x (List.mem_of_mem_erase hx)
        have h2 : x ≠ n := fun q => by
          subst q
          exact (List.Nodup.not_mem_erase hn) hx
        omega)
      omega
    · have := rf_lsum_le f n l hn (fun x hx => by
        have h1 := h x hx
        have h2 : x ≠ n := fun q => e (q ▸ hx)
        omega)
      omega
theorem rf_sum_congr {f g : Nat → Nat} : ∀ {n : Nat}, (∀ j, j < n → f j = g j) → rf_sum f n = rf_sum g n
  | 0, _ => rfl
  | n + 1, h => by
    unfold rf_sum
    rw [rf_sum_congr (fun j hj => h j (by omega)), h n (by omega)]
theorem rf_sum_upd {f g : Nat → Nat} {x : Nat} : ∀ {n : Nat}, x < n → (∀ j, j ≠ x → f j = g j) → rf_sum f n + g x = rf_sum g n + f x
  | 0, h, _ => absurd h (Nat.not_lt_zero _)
  | n + 1, h, hq => by
    unfold rf_sum
    by_cases e : x = n
    · subst e
      rw [rf_sum_congr (fun j hj => hq j (by omega))]
      omega
    · have := rf_sum_upd (n := n) (by omega) hq
      have := hq n (fun q => e q.symm)
      omega
/-! what names do to typed variables -/
def rf_bd (b : Int) : rf_Y → Prop
  | .leaf => True
  | .inner 0 k _ _ r => (k.1 < b ∧ 0 ≤ k.2 ∧ k.2 < b) ∧ rf_bd b r
  | .inner (_ + 1) _ _ a r => rf_bd b a ∧ rf_bd b r
theorem rf_bd_mono {b b' : Int} (h : b ≤ b') : ∀ {y : rf_Y}, rf_bd b y → rf_bd b' y
  | .leaf, _ => trivial
  | .inner 0 k _ _ r, q => ⟨⟨by have := q.1.1; omega, q.1.2.1, by have := q.1.2.2; omega⟩, rf_bd_mono h q.2⟩
  | .inner (_ + 1) _ _ a r, q => ⟨rf_bd_mono h q.1, rf_bd_mono h q.2⟩
theorem rf_look_ge {b v : Int} (h : b ≤ v) : ∀ {y : rf_Y}, rf_bd b y → rf_look y v = v
  | .leaf, _ => rfl
  | .inner 0 k _ _ r, q => by
    have e : k.1 ≠ v := by have := q.1.1; omega
    show (if k.1 = v then k.2 else rf_look r v) = v
    rw [if_neg e]
    exact rf_look_ge h q.2
  | .inner (_ + 1) _ _ a r, q => by
    show rf_look r (rf_look a v) = v
    rw [rf_look_ge h q.1]
    exact rf_look_ge h q.2
/-- the variables below b, with their types -/
def rf_V (ty : Int → rf_T → Prop) (b : Int) (v : Int) (t : rf_T) : Prop := (0 ≤ v ∧ v < b) ∧ ty v t
def rf_ok (V N : Int → rf_T → Prop) (y : rf_Y) : Prop := ∀ v t, V v t ∨ N v t → V (rf_look y v) t
theorem rf_ok_ext {ty ty' : Int → rf_T → Prop} {b b' : Int} {N : Int → rf_T → Prop} {y : rf_Y} (h : rf_ok (rf_V ty b) N y) (hb : rf_bd b y) (he : ∀ v t, 0 ≤ v → v < b → (ty' v t ↔ ty v t)) (hbb : b ≤ b') : rf_ok (rf_V ty' b') N y := by
  have up : ∀ v t, rf_V ty b v t → rf_V ty' b' v t := fun v t q => ⟨⟨q.1.1, by have := q.1.2; omega⟩, (he v t q.1.1 q.1.2).mpr q.2⟩
  rintro v t (q | q)
  · by_cases c : v < b
    · exact up _ _ (h v t (Or.inl ⟨⟨q.1.1, c⟩, (he v t q.1.1 c).mp q.2⟩))
    · rw [rf_look_ge (by omega) hb]
      exact q
  · exact up _ _ (h v t (Or.inr q))
theorem rf_ok_nil {V : Int → rf_T → Prop} : rf_ok V (fun _ _ => False) .leaf := by
  rintro v t (q | q)
  · exact q
  · exact q.elim
/-- a name before the others -/
theorem rf_ok_one {V N : Int → rf_T → Prop} {y : rf_Y} {f t : Int} (h : rf_ok V N y) (he : ∀ u, V f u ∨ N f u → V t u) : rf_ok V N (rf_one f t y) := by
  intro v u q
  show V (if f = v then t else rf_look y v) u
  by_cases e : f = v
  · subst e
    rw [if_pos rfl]
    exact he u q
  · rw [if_neg e]
    exact h v u q
/-- a row of names, the latest before the others -/
def rf_row (f t : Nat → Int) : Nat → rf_Y
  | 0 => .leaf
  | n + 1 => rf_one (f n) (t n) (rf_row f t n)
theorem rf_row_ok {V N : Int → rf_T → Prop} {f t : Nat → Int} : ∀ {n : Nat}, (∀ k, k < n → ∀ u, V (f k) u ∨ N (f k) u → V (t k) u) → (∀ v u, N v u → ∃ k, k < n ∧ v = f k) → rf_ok V N (rf_row f t n)
  | n, hE, hN => by
    have key : ∀ m, m ≤ n → ∀ v u, (V v u ∨ (N v u ∧ ∃ k, k < m ∧ v = f k)) → V (rf_look (rf_row f t m) v) u := by
      intro m
      induction m with
      | zero =>
        rintro _ v u (q | ⟨_, k, hk, _⟩)
        · exact q
        · omega
      | succ m ih =>
        intro hm v u q
        show V (if f m = v then t m else rf_look (rf_row f t m) v) u
        by_cases e : f m = v
        · subst e
          rw [if_pos rfl]
          exact hE m (by omega) u (q.elim Or.inl (fun z => Or.inr z.1))
        · rw [if_neg e]
          refine ih (by omega) v u (q.elim Or.inl (fun z => Or.inr ⟨z.1, ?_⟩))
          obtain ⟨_, k, hk, hv⟩ := z
          refine ⟨k, ?_, hv⟩
          have : k ≠ m := fun c => e (by rw [← c]; exact hv.symm)
          omega
    intro v u q
    refine key n (Nat.le_refl _) v u (q.elim Or.inl (fun z => Or.inr ⟨z, hN v u z⟩))
theorem rf_row_bd {f t : Nat → Int} {b : Int} : ∀ {n : Nat}, (∀ k, k < n → f k < b ∧ 0 ≤ t k ∧ t k < b) → rf_bd b (rf_row f t n)
  | 0, _ => trivial
  | n + 1, h => ⟨h n (by omega), rf_row_bd (fun k hk => h k (by omega))⟩
theorem rf_row_dp {f t : Nat → Int} : ∀ n : Nat, rf_dp (rf_row f t n) = 0
  | 0 => rfl
  | n + 1 => rf_row_dp n
