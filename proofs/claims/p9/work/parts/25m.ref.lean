theorem rf_bud {x y : Int} {q p p' : Nat} (hb : x + (((q + 1) * p : Nat) : Int) ≤ 390000) (h : y + (p' : Int) ≤ x + (p : Int)) (hp : p' ≤ p) : y + (((q + 1) * p' : Nat) : Int) ≤ 390000 := by
  have := rf_ar3 (e := p - p') (p' := p') (p := p) (M := q + 1) (by omega) (by omega)
  omega
theorem rf_bud1 {x : Int} {q p : Nat} (hb : x + (((q + 1) * p : Nat) : Int) ≤ 390000) : x + (p : Int) ≤ 390000 := by
  have : p ≤ (q + 1) * p := Nat.le_mul_of_pos_left _ (by omega)
  omega
def rf_U2 (s u : sx_S) (g : rf_Gh) (x : rf_T) (pa0 pb0 : Nat) (NA NB : Int → rf_T → Prop) (A B : rf_N) (yA yB : rf_Y) (WA WB : List Nat) (pa pb : Nat) (x5 x6 x7 x8 : Int) : Prop := rf_UB s u (pa0 + pb0) (pa + pb) ∧ rf_CL u g NA A yA x WA pa x5 x6 ∧ rf_CL u g NB B yB x WB pb x7 x8 ∧ pa ≤ pa0 ∧ pb ≤ pb0
/-- it is no solved unknown; what its head is called; it has a head -/
def rf_op (u : sx_S) (i : Int) : Prop := u.2.1 100 i.toNat = 3 → u.2.1 111 (u.2.1 101 i.toNat).toNat = 0
def rf_hv (u : sx_S) (y : rf_Y) (i v : Int) : Prop := v = (if u.2.1 100 i.toNat = 2 then rf_look y (u.2.1 101 i.toNat) else u.2.1 101 i.toNat)
def rf_hk (u : sx_S) (i : Int) : Prop := u.2.1 100 i.toNat = 1 ∨ u.2.1 100 i.toNat = 2
def rf_fst : rf_N → rf_N
  | .leaf => .leaf
  | .inner _ _ _ f _ => f
