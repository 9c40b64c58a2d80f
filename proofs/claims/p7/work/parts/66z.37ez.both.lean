/-! ===== two contracts of one call speak of the same answer and heap ===== -/
theorem sx_both {sL : Nat} {sx : Nat → Int32} {d mi : Nat} {av : List sx_V} {s : sx_S} {K1 K2 K : Int → sx_S → Prop} {e : mx_En} (he : mx_pg[mi]? = some e) (h1 : sx_C sL sx d mi av s K1) (h2 : sx_C sL sx d mi av s K2) (h : ∀ z1 t1 z2 t2, K1 z1 t1 → K2 z2 t2 → sx_vo e.1.2.2.2 z1 = sx_vo e.1.2.2.2 z2 → sx_hp t1 = sx_hp t2 → K z1 t1) : sx_C sL sx d mi av s K := by
  intro hw e' he' c n
  cases he.symm.trans he'
  obtain ⟨z1, t1, ⟨k1, a1⟩, a2, a3, a4⟩ := h1 hw e he c n
  obtain ⟨z2, t2, ⟨k2, b1⟩, b2, b3, b4⟩ := h2 hw e he c n
  have q1 := mx_mono a1 (k1 + k2) (Nat.le_add_right _ _)
  have q2 := mx_mono b1 (k1 + k2) (Nat.le_add_left _ _)
  have q := Option.some.inj (q1.symm.trans q2)
  exact ⟨z1, t1, ⟨k1, a1⟩, a2, a3, h z1 t1 z2 t2 a4 b4 (congrArg Prod.fst q) (congrArg (fun r => r.2.1) q)⟩
/-- the same int -/
theorem sx_vo_int {z1 z2 : Int} (h : sx_vo (some .int) z1 = sx_vo (some .int) z2) (h1 : -2147483648 ≤ z1 ∧ z1 ≤ 2147483647) (h2 : -2147483648 ≤ z2 ∧ z2 ≤ 2147483647) : z1 = z2 := by
  have q : (some (Value.int (Int32.ofInt z1)) : Option Value) = some (Value.int (Int32.ofInt z2)) := h
  injection q with q
  injection q with q
  have q3 := congrArg Int32.toInt q
  rw [sx_toInt ⟨by omega, by omega⟩, sx_toInt ⟨by omega, by omega⟩] at q3
  exact q3
