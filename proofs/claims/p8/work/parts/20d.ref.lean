/-! ===== the reference: types ===== -/
def rf_is (s : sx_S) (x : rf_T) (t : Int) : Prop := rf_ty (s.2.1 72) (s.2.1 73) (s.1 66 9) x t
def rf_tu (s t : sx_S) : Prop := ∀ j : Nat, s.1 66 9 ≤ t.1 66 9 ∧ ((j : Int) < s.1 66 9 → t.2.1 72 j = s.2.1 72 j ∧ t.2.1 73 j = s.2.1 73 j)
theorem rf_is_up {s t : sx_S} {x : rf_T} {z : Int} (h : rf_is s x z) (hu : rf_tu s t) : rf_is t x z := rf_ty_mono (fun j => (hu j).2) (hu 0).1 h
theorem rf_tu_refl (s : sx_S) : rf_tu s s := fun _ => ⟨Int.le_refl _, fun _ => ⟨rfl, rfl⟩⟩
theorem rf_tu_trans {s t u : sx_S} (h2 : rf_tu t u) (h1 : rf_tu s t) : rf_tu s u := fun j => ⟨Int.le_trans (h1 j).1 (h2 j).1, fun hj => by
  obtain ⟨a1, a2⟩ := (h1 j).2 hj
  obtain ⟨b1, b2⟩ := (h2 j).2 (Int.lt_of_lt_of_le hj (h1 j).1)
  exact ⟨b1.trans a1, b2.trans a2⟩⟩
/-- nothing of the types was touched -/
theorem rf_tu_F {V : List (Nat × Nat)} {W : List Nat} {s t u : sx_S} (hF : cx_F V t u) (h72 : cx_outb V 72 = true) (h73 : cx_outb V 73 = true) (hf : rf_f W t u) (h9 : W.contains 9 = false) (h : rf_tu s t) : rf_tu s u := rf_tu_trans (fun j => ⟨Int.le_of_eq (hf 9 h9).symm, fun _ => ⟨by rw [(hF.same 72 h72).2], by rw [(hF.same 73 h73).2]⟩⟩) h
theorem rf_tu_uf {s : sx_S} {F : Nat → Nat → Int} {B : (Nat → Nat → Int) × (Nat → Nat → Int) × Nat} {k : Nat} {v : Int} (hk : Nat.beq k 9 = false) (h : rf_tu s (F, B)) : rf_tu s (sx_uf F 66 k v, B) := by
  have e : sx_uf F 66 k v 66 9 = F 66 9 := by
    rw [sx_uf_if]
    refine if_neg (fun q => ?_)
    rw [← q.2] at hk
    exact absurd hk (by decide)
  intro j
  refine ⟨?_, (h j).2⟩
  show _ ≤ sx_uf F 66 k v 66 9
  rw [e]
  exact (h j).1
theorem rf_arrow {s t : sx_S} {a b : Int} (h0 : 0 ≤ s.1 66 9) (e0 : t.1 66 9 = s.1 66 9 + 1) (e1 : t.2.1 72 = fun j => if j = (s.1 66 9).toNat then a else s.2.1 72 j) (e2 : t.2.1 73 = fun j => if j = (s.1 66 9).toNat then b else s.2.1 73 j) : rf_tu s t ∧ ∀ x y, 2 ≤ s.1 66 9 → rf_is s x a → rf_is s y b → rf_is t (rf_a x y) (s.1 66 9) := by
  have hu : rf_tu s t := by
    refine fun j => ⟨by omega, fun hj => ?_⟩
    rw [e1, e2]
    dsimp only
    rw [if_neg (by omega), if_neg (by omega)]
    exact ⟨rfl, rfl⟩
  refine ⟨hu, fun x y h2 hx hy => ⟨⟨rfl, h2, by omega⟩, ?_, ?_⟩⟩
  · have q := rf_is_up hx hu
    rw [e1]
    dsimp only
    rw [if_pos rfl, ← e1]
    exact q
  · have q := rf_is_up hy hu
    rw [e2]
    dsimp only
    rw [if_pos rfl, ← e2]
    exact q
def rf_ar (s t : sx_S) (a b z : Int) : Prop := ∀ x y, 2 ≤ s.1 66 9 → rf_is s x a → rf_is s y b → rf_is t (rf_a x y) z
theorem rf_tu_mk {s : sx_S} {B : (Nat → Nat → Int) × Nat} {w n m a b : Int} (h0 : 0 ≤ s.1 66 9) (hw : w = s.1 66 9 + 1) (h1 : n = s.1 66 9) (h2 : m = s.1 66 9) : rf_tu s (sx_uf s.1 66 9 w, sx_ua (sx_ua s.2.1 72 n.toNat a) 73 m.toNat b, B) := by
  subst h1 h2
  refine (rf_arrow (a := a) (b := b) h0 ?_ ?_ ?_).1
  · show sx_uf s.1 66 9 w 66 9 = _
    rw [sx_uf_if, if_pos ⟨rfl, rfl⟩]
    exact hw
  · show sx_ua (sx_ua s.2.1 72 (s.1 66 9).toNat a) 73 (s.1 66 9).toNat b 72 = _
    rw [sx_ua_ne (by decide), sx_ua_same]
  · show sx_ua (sx_ua s.2.1 72 (s.1 66 9).toNat a) 73 (s.1 66 9).toNat b 73 = _
    rw [sx_ua_same, sx_ua_ne (by decide)]
theorem rf_ar_mk {s : sx_S} {B : (Nat → Nat → Int) × Nat} {w n m z a b : Int} (h0 : 0 ≤ s.1 66 9) (hw : w = s.1 66 9 + 1) (h1 : n = s.1 66 9) (h2 : m = s.1 66 9) (hz : z = s.1 66 9) : rf_ar s (sx_uf s.1 66 9 w, sx_ua (sx_ua s.2.1 72 n.toNat a) 73 m.toNat b, B) a b z := by
  subst h1 h2 hz
  refine (rf_arrow h0 ?_ ?_ ?_).2
  · show sx_uf s.1 66 9 w 66 9 = _
    rw [sx_uf_if, if_pos ⟨rfl, rfl⟩]
    exact hw
  · show sx_ua (sx_ua s.2.1 72 (s.1 66 9).toNat a) 73 (s.1 66 9).toNat b 72 = _
    rw [sx_ua_ne (by decide), sx_ua_same]
  · show sx_ua (sx_ua s.2.1 72 (s.1 66 9).toNat a) 73 (s.1 66 9).toNat b 73 = _
    rw [sx_ua_same, sx_ua_ne (by decide)]
