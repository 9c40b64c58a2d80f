/-! ===== two contracts of one call: a state that keeps what both say ===== -/
theorem sx_bothM {sL : Nat} {sx : Nat → Int32} {d mi : Nat} {av : List sx_V} {s : sx_S} {K1 K2 K : Int → sx_S → Prop} {e : mx_En} (he : mx_pg[mi]? = some e) (h1 : sx_C sL sx d mi av s K1) (h2 : sx_C sL sx d mi av s K2) (h : ∀ z1 t1 z2 t2, K1 z1 t1 → K2 z2 t2 → sx_vo e.1.2.2.2 z1 = sx_vo e.1.2.2.2 z2 → sx_hp t1 = sx_hp t2 → ∃ t3, sx_hp t3 = sx_hp t1 ∧ t3.2.2.2 = t1.2.2.2 ∧ K z1 t3) : sx_C sL sx d mi av s K := by
  intro hw e' he' c n
  cases he.symm.trans he'
  obtain ⟨z1, t1, ⟨k1, a1⟩, a2, a3, a4⟩ := h1 hw e he c n
  obtain ⟨z2, t2, ⟨k2, b1⟩, b2, b3, b4⟩ := h2 hw e he c n
  have q1 := mx_mono a1 (k1 + k2) (Nat.le_add_right _ _)
  have q2 := mx_mono b1 (k1 + k2) (Nat.le_add_left _ _)
  have q := Option.some.inj (q1.symm.trans q2)
  obtain ⟨t3, e1, e2, e3⟩ := h z1 t1 z2 t2 a4 b4 (congrArg Prod.fst q) (congrArg (fun r => r.2.1) q)
  refine ⟨z1, t3, ⟨k1, ?_⟩, by omega, by omega, e3⟩
  rw [e1, e2]
  exact a1
/-- the cells 1 .. 28 of b, the others of a -/
def sx_mg (a b : sx_S) : sx_S := (fun p => cond (Nat.ble 1 p && Nat.ble p 28) (b.1 p) (a.1 p), fun p => cond (Nat.ble 1 p && Nat.ble p 28) (b.2.1 p) (a.2.1 p), a.2.2)
theorem sx_mg_in {a b : sx_S} {p : Nat} (h1 : 1 ≤ p) (h2 : p ≤ 28) : (sx_mg a b).1 p = b.1 p ∧ (sx_mg a b).2.1 p = b.2.1 p := by
  have e : (Nat.ble 1 p && Nat.ble p 28) = true := by
    rw [Bool.and_eq_true]
    exact ⟨Nat.ble_eq.mpr h1, Nat.ble_eq.mpr h2⟩
  show cond (Nat.ble 1 p && Nat.ble p 28) (b.1 p) (a.1 p) = b.1 p ∧ cond (Nat.ble 1 p && Nat.ble p 28) (b.2.1 p) (a.2.1 p) = b.2.1 p
  rw [e]
  exact ⟨rfl, rfl⟩
theorem sx_mg_out {a b : sx_S} {p : Nat} (h : p = 0 ∨ 28 < p) : (sx_mg a b).1 p = a.1 p ∧ (sx_mg a b).2.1 p = a.2.1 p := by
  have e : (Nat.ble 1 p && Nat.ble p 28) = false := by
    cases hb : (Nat.ble 1 p && Nat.ble p 28) with
    | false => rfl
    | true =>
      rw [Bool.and_eq_true] at hb
      have h1 := Nat.ble_eq.mp hb.1
      have h2 := Nat.ble_eq.mp hb.2
      exact absurd h (by omega)
  show cond (Nat.ble 1 p && Nat.ble p 28) (b.1 p) (a.1 p) = a.1 p ∧ cond (Nat.ble 1 p && Nat.ble p 28) (b.2.1 p) (a.2.1 p) = a.2.1 p
  rw [e]
  exact ⟨rfl, rfl⟩
theorem sx_cell_cg {s t : sx_S} {p : Nat} (x : Sum (Nat × List Nat) (Nat × Nat)) (h1 : s.1 p = t.1 p) (h2 : s.2.1 p = t.2.1 p) : sx_cell s p x = sx_cell t p x := by
  unfold sx_cell
  rw [h1, h2]
theorem sx_mg_hp {a b : sx_S} (hh : sx_hp a = sx_hp b) : sx_hp (sx_mg a b) = sx_hp a := by
  have e1 : sx_sh.mapIdx (fun p x => sx_cell (sx_mg a b) p x) = sx_sh.mapIdx (fun p x => sx_cell a p x) := by
    apply List.ext_getElem?
    intro p
    rw [List.getElem?_mapIdx, List.getElem?_mapIdx]
    cases hx : sx_sh[p]? with
    | none => rfl
    | some x =>
      show some (sx_cell (sx_mg a b) p x) = some (sx_cell a p x)
      by_cases c : 1 ≤ p ∧ p ≤ 28
      · have q : some (sx_cell a p x) = some (sx_cell b p x) := (sx_hp_at hx).symm.trans ((congrArg (fun l => l[p]?) hh).trans (sx_hp_at hx))
        rw [q, sx_cell_cg x (sx_mg_in c.1 c.2).1 (sx_mg_in c.1 c.2).2]
      · rw [sx_cell_cg x (sx_mg_out (a := a) (b := b) (by omega)).1 (sx_mg_out (a := a) (b := b) (by omega)).2]
  unfold sx_hp
  rw [e1]
  rfl
theorem sx_mg_I {a b : sx_S} (ha : cx_I a) (hb : cx_I b) : cx_I (sx_mg a b) := by
  intro k p j hp
  match k with
  | 0 =>
    show (cx_rng p j).1 ≤ (sx_mg a b).1 p j ∧ (sx_mg a b).1 p j ≤ (cx_rng p j).2
    by_cases c : 1 ≤ p ∧ p ≤ 28
    · rw [(sx_mg_in c.1 c.2).1]
      exact hb 0 p j hp
    · rw [(sx_mg_out (a := a) (b := b) (by omega)).1]
      exact ha 0 p j hp
  | 1 =>
    show (cx_arg p).1 ≤ (sx_mg a b).2.1 p j ∧ (sx_mg a b).2.1 p j ≤ (cx_arg p).2
    by_cases c : 1 ≤ p ∧ p ≤ 28
    · rw [(sx_mg_in c.1 c.2).2]
      exact hb 1 p j hp
    · rw [(sx_mg_out (a := a) (b := b) (by omega)).2]
      exact ha 1 p j hp
  | k + 2 =>
    show (j : Int) < (sx_mg a b).1 11 6 → (sx_mg a b).2.1 16 j ≤ (sx_mg a b).1 11 6
    rw [(sx_mg_in (by decide) (by decide)).1, (sx_mg_in (by decide) (by decide)).2]
    exact hb (k + 2) p j hp
theorem sx_mg_F {s a b : sx_S} (h : cx_F [(0, 28)] s a) : cx_F [(0, 28)] s (sx_mg a b) := by
  intro p
  refine ⟨fun ho => ?_, (h 0).2⟩
  have hp : 28 < p := by
    have := ho (0, 28) List.mem_cons_self
    dsimp only at this
    omega
  rw [(sx_mg_out (a := a) (b := b) (Or.inr hp)).1, (sx_mg_out (a := a) (b := b) (Or.inr hp)).2]
  exact (h p).1 ho
