/-! ===== WHAT IS READ, pure: types with their atoms, terms, by the tokens' kinds ===== -/
abbrev qx_T : Type := Std.DTreeMap.Internal.Impl Bool (fun _ => Unit)
abbrev qx_o : qx_T := .leaf
abbrev qx_i : qx_T := .inner 0 true () .leaf .leaf
abbrev qx_a (x y : qx_T) : qx_T := .inner 0 false () x y
/-- how many o and i -/
def qx_at : qx_T → Nat
  | .leaf => 1
  | .inner _ k _ x y => cond k 1 (qx_at x + qx_at y)
/-- a type by rows of what is left and right of arrows, 0 for o, 1 for i -/
def qx_ty (L R : Nat → Int) (N : Int) : qx_T → Int → Prop
  | .leaf, t => t = 0
  | .inner j k _ x y, t => j = 0 ∧ ((k = true ∧ x = .leaf ∧ y = .leaf ∧ t = 1) ∨ (k = false ∧ (2 ≤ t ∧ t < N) ∧ qx_ty L R N x (L t.toNat) ∧ qx_ty L R N y (R t.toNat)))
/-- as shapes -/
def qx_sh : qx_T → rf_T
  | .leaf => rf_b
  | .inner _ k _ x y => cond k rf_b (rf_a (qx_sh x) (qx_sh y))
/-- a TYPE of depth below f, from token a on: its type, the place behind it -/
def px_TY (K : Nat → Int) : Nat → Int → qx_T → Int → Prop
  | 0, _, _, _ => False
  | f + 1, a, x, c => ∃ y e, ((K a.toNat = 6 ∧ y = qx_o ∧ e = a + 1) ∨ (K a.toNat = 7 ∧ y = qx_i ∧ e = a + 1) ∨ (K a.toNat = 9 ∧ ∃ g, px_TY K f (a + 1) y g ∧ K g.toNat = 10 ∧ e = g + 1)) ∧ ((K e.toNat = 8 ∧ ∃ w, px_TY K f (e + 1) w c ∧ x = qx_a y w) ∨ (K e.toNat ≠ 8 ∧ x = y ∧ c = e))
/-- a term: tag 0: \ (NAME's token, type), body; tag 1: a NAME's token, its ARGs; then what stands next in a row -/
abbrev px_N : Type := Std.DTreeMap.Internal.Impl (Int × qx_T) (fun _ => Unit)
abbrev px_lam (a : Int) (x : qx_T) (f n : px_N) : px_N := .inner 0 (a, x) () f n
abbrev px_app (a : Int) (f n : px_N) : px_N := .inner 1 (a, .leaf) () f n
def px_snoc : px_N → px_N → px_N
  | .leaf, p => p
  | .inner j k u f x, p => .inner j k u f (px_snoc x p)
/-- ARGs from token a on, behind those of r, in at most g steps; T: what stands in brackets -/
def px_ARg (K : Nat → Int) (T : Int → px_N → Int → Prop) : Nat → Int → px_N → px_N → Int → Prop
  | 0, _, _, _, _ => False
  | g + 1, a, r, r', c => (K a.toNat = 9 ∧ ∃ t e, T (a + 1) t e ∧ K e.toNat = 10 ∧ px_ARg K T g (e + 1) (px_snoc r t) r' c) ∨ (K a.toNat = 2 ∧ px_ARg K T g (a + 1) (px_snoc r (px_app a .leaf .leaf)) r' c) ∨ (K a.toNat ≠ 9 ∧ K a.toNat ≠ 2 ∧ r' = r ∧ c = a)
def px_AR (K : Nat → Int) (T : Int → px_N → Int → Prop) (a : Int) (r r' : px_N) (c : Int) : Prop := ∃ g, px_ARg K T g a r r' c
theorem px_AR_it {K : Nat → Int} {T : Int → px_N → Int → Prop} {a : Int} {r r' : px_N} {c : Int} : px_AR K T a r r' c ↔ (K a.toNat = 9 ∧ ∃ t e, T (a + 1) t e ∧ K e.toNat = 10 ∧ px_AR K T (e + 1) (px_snoc r t) r' c) ∨ (K a.toNat = 2 ∧ px_AR K T (a + 1) (px_snoc r (px_app a .leaf .leaf)) r' c) ∨ (K a.toNat ≠ 9 ∧ K a.toNat ≠ 2 ∧ r' = r ∧ c = a) := by
  constructor
  · rintro ⟨g, h⟩
    cases g with
    | zero => exact h.elim
    | succ g =>
      rcases h with ⟨h1, t, e, h2, h3, h4⟩ | ⟨h1, h2⟩ | h
      · exact Or.inl ⟨h1, t, e, h2, h3, g, h4⟩
      · exact Or.inr (Or.inl ⟨h1, g, h2⟩)
      · exact Or.inr (Or.inr h)
  · rintro (⟨h1, t, e, h2, h3, g, h4⟩ | ⟨h1, g, h2⟩ | h)
    · exact ⟨g + 1, Or.inl ⟨h1, t, e, h2, h3, h4⟩⟩
    · exact ⟨g + 1, Or.inr (Or.inl ⟨h1, h2⟩)⟩
    · exact ⟨1, Or.inr (Or.inr h)⟩
/-- a TERM of depth below f, from token a on -/
def px_TM (K : Nat → Int) : Nat → Int → px_N → Int → Prop
  | 0, _, _, _ => False
  | f + 1, a, t, c => (K a.toNat = 11 ∧ K (a + 1).toNat = 2 ∧ K (a + 2).toNat = 12 ∧ ∃ x e, px_TY K f (a + 3) x e ∧ K e.toNat = 13 ∧ ∃ u, px_TM K f (e + 1) u c ∧ t = px_lam (a + 1) x u .leaf) ∨ (K a.toNat = 2 ∧ ∃ r, px_AR K (px_TM K f) (a + 1) .leaf r c ∧ t = px_app a r .leaf)
/-- an item from token a on: con (3), met (4) with NAME and type, or eq (5) with two TERMs -/
def px_IT (K : Nat → Int) (a : Int) (q : (Int × Int × qx_T) × (px_N × px_N)) (c : Int) : Prop := ((K a.toNat = 3 ∨ K a.toNat = 4) ∧ K (a + 1).toNat = 2 ∧ K (a + 2).toNat = 12 ∧ ∃ x e, px_TY K 21 (a + 3) x e ∧ K e.toNat = 14 ∧ c = e + 1 ∧ q = ((K a.toNat, a + 1, x), .leaf, .leaf)) ∨ (K a.toNat = 5 ∧ ∃ t e u g, px_TM K 21 (a + 1) t e ∧ K e.toNat = 15 ∧ px_TM K 21 (e + 1) u g ∧ K g.toNat = 14 ∧ c = g + 1 ∧ q = ((5, a, qx_o), t, u))
theorem px_TY_fun {K : Nat → Int} : ∀ {f : Nat} {a : Int} {x y : qx_T} {c e : Int}, px_TY K f a x c → px_TY K f a y e → x = y ∧ c = e
  | 0, _, _, _, _, _, h, _ => h.elim
  | f + 1, a, x, y, c, e, h, k => by
    obtain ⟨y1, e1, h1, h2⟩ := h
    obtain ⟨y2, e2, k1, k2⟩ := k
    have hh : y1 = y2 ∧ e1 = e2 := by
      rcases h1 with ⟨q1, q2, q3⟩ | ⟨q1, q2, q3⟩ | ⟨q1, g, q2, q3, q4⟩ <;> rcases k1 with ⟨p1, p2, p3⟩ | ⟨p1, p2, p3⟩ | ⟨p1, g', p2, p3, p4⟩
      · exact ⟨by rw [q2, p2], by omega⟩
      · omega
      · omega
      · omega
      · exact ⟨by rw [q2, p2], by omega⟩
      · omega
      · omega
      · omega
      · obtain ⟨z1, z2⟩ := px_TY_fun q2 p2
        exact ⟨z1, by omega⟩
    obtain ⟨rfl, rfl⟩ := hh
    rcases h2 with ⟨q1, w, q2, q3⟩ | ⟨q1, q2, q3⟩ <;> rcases k2 with ⟨p1, w', p2, p3⟩ | ⟨p1, p2, p3⟩
    · obtain ⟨z1, z2⟩ := px_TY_fun q2 p2
      exact ⟨by rw [q3, p3, z1], z2⟩
    · exact absurd q1 p1
    · exact absurd p1 q1
    · exact ⟨by rw [q2, p2], by omega⟩
theorem px_ARg_fun {K : Nat → Int} {T : Int → px_N → Int → Prop} (hT : ∀ a t e t' e', T a t e → T a t' e' → t = t' ∧ e = e') : ∀ {g g' : Nat} {a : Int} {r x y : px_N} {c e : Int}, px_ARg K T g a r x c → px_ARg K T g' a r y e → x = y ∧ c = e
  | 0, _, _, _, _, _, _, _, h, _ => h.elim
  | _ + 1, 0, _, _, _, _, _, _, _, k => k.elim
  | g + 1, g' + 1, a, r, x, y, c, e, h, k => by
    rcases h with ⟨q1, t, m, q2, q3, q4⟩ | ⟨q1, q2⟩ | ⟨q1, q2, q3, q4⟩ <;> rcases k with ⟨p1, t', m', p2, p3, p4⟩ | ⟨p1, p2⟩ | ⟨p1, p2, p3, p4⟩
    · obtain ⟨rfl, rfl⟩ := hT _ _ _ _ _ q2 p2
      exact px_ARg_fun hT q4 p4
    · omega
    · omega
    · omega
    · exact px_ARg_fun hT q2 p2
    · omega
    · omega
    · omega
    · exact ⟨by rw [q3, p3], by omega⟩
theorem px_TM_fun {K : Nat → Int} : ∀ {f : Nat} {a : Int} {x y : px_N} {c e : Int}, px_TM K f a x c → px_TM K f a y e → x = y ∧ c = e
  | 0, _, _, _, _, _, h, _ => h.elim
  | f + 1, a, x, y, c, e, h, k => by
    rcases h with ⟨q1, q2, q3, z, m, q4, q5, u, q6, q7⟩ | ⟨q1, r, ⟨g, q2⟩, q3⟩ <;> rcases k with ⟨p1, p2, p3, z', m', p4, p5, u', p6, p7⟩ | ⟨p1, r', ⟨g', p2⟩, p3⟩
    · obtain ⟨rfl, rfl⟩ := px_TY_fun q4 p4
      obtain ⟨rfl, rfl⟩ := px_TM_fun q6 p6
      exact ⟨by rw [q7, p7], rfl⟩
    · omega
    · omega
    · obtain ⟨rfl, rfl⟩ := px_ARg_fun (T := px_TM K f) (fun _ _ _ _ _ h1 h2 => px_TM_fun h1 h2) q2 p2
      exact ⟨by rw [q3, p3], rfl⟩
