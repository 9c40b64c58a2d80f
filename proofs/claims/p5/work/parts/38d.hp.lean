/-! ===== what two states of one heap have in common ===== -/
theorem sx_hp_fl {s t : sx_S} {p k c : Nat} {ks : List Nat} (hp : sx_sh[p]? = some (.inl (c, ks))) (hk : ks[k]? = some 0) (h : sx_hp s = sx_hp t) (r1 : -2147483648 ≤ s.1 p k ∧ s.1 p k ≤ 2147483647) (r2 : -2147483648 ≤ t.1 p k ∧ t.1 p k ≤ 2147483647) : s.1 p k = t.1 p k := by
  have e1 : some (sx_cell s p (.inl (c, ks))) = some (sx_cell t p (.inl (c, ks))) := (sx_hp_at hp).symm.trans ((congrArg (fun l => l[p]?) h).trans (sx_hp_at hp))
  have e2 := Option.some.inj e1
  have e3 : ks.mapIdx (fun k kd => sx_fv (s.1 p) k kd) = ks.mapIdx (fun k kd => sx_fv (t.1 p) k kd) := congrArg (Sum.elim (fun _ => []) Prod.snd) e2
  have e4 := congrArg (fun l => l[k]?) e3
  rw [List.getElem?_mapIdx, List.getElem?_mapIdx, hk] at e4
  have e5 : (some (Value.int (Int32.ofInt (s.1 p k))) : Option Value) = some (Value.int (Int32.ofInt (t.1 p k))) := e4
  exact sx_vo_int e5 r1 r2
