/-! ===== THE MACHINE OVER INTEGERS: every cell that the two constructors leave has its place; a state is what the fields and the arrays hold, as integers; small arrays made later are numbered from 0 on ===== -/
abbrev sx_V : Type := Sum Int (Sum Nat Nat)
abbrev sx_S : Type := (Nat → Nat → Int) × (Nat → Nat → Int) × (Nat → Nat → Int) × Nat
abbrev sx_L : Type := List (Nat × sx_V)
/-- the cells: an object's sort and its fields (0 int, 1 boolean, 2 + p the cell p), or an array's sort and length -/
def sx_sh : List (Sum (Nat × List Nat) (Nat × Nat)) := [
  .inl (11, [3, 0, 1, 0, 0, 0, 4, 9, 20, 40, 57]), .inr (0, 240), .inl (8, [5, 6, 7, 8, 0, 0]), .inr (0, 240), .inr (0, 240), .inr (0, 240), .inr (0, 240), .inl (2, [4, 0]),
  .inl (9, [11, 12, 0]), .inr (0, 256), .inr (0, 256), .inl (7, [10, 14, 15, 16, 17, 18, 0, 19, 0]), .inr (0, 1024), .inr (0, 1024), .inr (0, 1024), .inr (0, 1024),
  .inr (0, 1024), .inr (0, 512), .inl (1, [4, 10, 13, 21, 24, 27, 28, 29, 30, 0, 0, 0, 0, 0, 0]), .inl (4, [22, 23, 0]), .inr (0, 8), .inr (0, 8), .inl (4, [25, 26, 0]), .inr (0, 5),
  .inr (0, 5), .inr (0, 5), .inr (0, 8), .inr (0, 21), .inr (0, 21), .inl (3, [32, 33, 34, 0]), .inr (0, 1024), .inr (0, 1024),
  .inr (0, 1024), .inl (0, [13, 31, 36, 37, 38, 39, 0, 0, 0]), .inr (0, 32), .inr (0, 32), .inr (0, 128), .inr (0, 128), .inl (6, [13, 31, 35, 41, 48, 55, 56, 0, 0, 0, 0, 0, 0]), .inl (5, [42, 43, 44, 45, 46, 47, 0]),
  .inr (0, 512), .inr (0, 512), .inr (0, 512), .inr (0, 512), .inr (0, 512), .inr (0, 512), .inl (5, [49, 50, 51, 52, 53, 54, 0]), .inr (0, 512),
  .inr (0, 512), .inr (0, 512), .inr (0, 512), .inr (0, 512), .inr (0, 512), .inr (0, 32), .inr (0, 4), .inl (10, [20, 10, 13, 31, 35, 58, 65, 66, 0, 67, 0, 0]),
  .inl (5, [59, 60, 61, 62, 63, 64, 0]), .inr (0, 512), .inr (0, 512), .inr (0, 512), .inr (0, 512), .inr (0, 512), .inr (0, 512), .inr (0, 32),
  .inr (0, 128), .inr (0, 4000), .inl (12, [69, 0, 70, 0, 71, 72, 73, 0, 1, 0, 74, 75, 0, 76, 77, 78, 79, 80, 81, 82, 83, 84, 85, 86, 0, 87, 88, 89, 90, 91, 92, 93, 94, 0, 0, 95, 96, 1, 0, 0, 0, 0, 0, 97, 98, 0, 99, 0, 100, 101, 0, 102, 103, 104, 105, 106, 0, 107, 0, 108, 109, 0, 110, 111, 0, 112, 113, 114, 115, 116, 0, 0, 117, 118, 119, 0, 0, 0, 1, 0, 120, 121, 122, 0, 123, 124, 0, 125, 126, 1]), .inr (0, 240), .inr (0, 240), .inr (0, 242), .inr (0, 242), .inr (0, 242),
  .inr (0, 6000), .inr (0, 6000), .inr (0, 600), .inr (0, 600), .inr (0, 600), .inr (0, 600), .inr (0, 600), .inr (0, 600),
  .inr (0, 600), .inr (0, 600), .inr (0, 600), .inr (0, 600), .inr (0, 600), .inr (0, 60), .inr (0, 60), .inr (0, 60),
  .inr (0, 60), .inr (0, 60), .inr (0, 60), .inr (0, 60), .inr (0, 60), .inr (0, 60), .inr (0, 60), .inr (0, 8),
  .inr (0, 8), .inr (0, 5), .inr (0, 4), .inr (0, 4), .inr (0, 60000), .inr (0, 60000), .inr (0, 60000), .inr (0, 60000),
  .inr (0, 60000), .inr (0, 120000), .inr (0, 400000), .inr (0, 400000), .inr (0, 3000), .inr (0, 3000), .inr (0, 20000), .inr (1, 3000),
  .inr (0, 3000), .inr (0, 3000), .inr (0, 3000), .inr (0, 400000), .inr (0, 400000), .inr (0, 400000), .inr (0, 3000), .inr (1, 3000),
  .inr (0, 3000), .inr (0, 20000), .inr (0, 4001), .inr (0, 5), .inr (1, 3000)]
def sx_e (v : sx_V) : Value := match v with
  | .inl z => .int (Int32.ofInt z)
  | .inr (.inl p) => .ref p
  | .inr (.inr o) => .ref (125 + o)
def sx_ed (q : Nat × sx_V) : Nat × Value := (q.1, sx_e q.2)
def sx_fv (F : Nat → Int) (k kd : Nat) : Value := match kd with
  | 0 => .int (Int32.ofInt (F k))
  | 1 => .int (Int32.ofInt (F k))
  | q + 2 => .ref q
def sx_cell (s : sx_S) (p : Nat) (x : Sum (Nat × List Nat) (Nat × Nat)) : va_E := match x with
  | .inl o => .inr (o.1, o.2.mapIdx (fun k kd => sx_fv (s.1 p) k kd))
  | .inr a => .inl (a.1, a.2, .inl (fun j => Int32.ofInt (s.2.1 p j)))
def sx_own (s : sx_S) (o : Nat) : va_E := .inl (0, 8, .inl (fun j => Int32.ofInt (s.2.2.1 o j)))
def sx_hp (s : sx_S) : List va_E := sx_sh.mapIdx (fun p x => sx_cell s p x) ++ (List.range s.2.2.2).map (sx_own s)
theorem sx_sh_len : sx_sh.length = 125 := rfl
theorem sx_hp_len (s : sx_S) : (sx_hp s).length = 125 + s.2.2.2 := by
  unfold sx_hp
  rw [List.length_append, List.length_mapIdx, List.length_map, List.length_range, sx_sh_len]
theorem sx_hp_at {s : sx_S} {p : Nat} {x : Sum (Nat × List Nat) (Nat × Nat)} (h : sx_sh[p]? = some x) : (sx_hp s)[p]? = some (sx_cell s p x) := by
  have hl : p < sx_sh.length := (List.getElem?_eq_some_iff.mp h).1
  unfold sx_hp
  rw [List.getElem?_append_left (by rw [List.length_mapIdx]; exact hl), List.getElem?_mapIdx, h]
  rfl
theorem sx_hp_own {s : sx_S} {o : Nat} (h : o < s.2.2.2) : (sx_hp s)[125 + o]? = some (sx_own s o) := by
  unfold sx_hp
  rw [List.getElem?_append_right (by rw [List.length_mapIdx, sx_sh_len]; exact Nat.le_add_right _ _), List.length_mapIdx, sx_sh_len, Nat.add_sub_cancel_left, List.getElem?_map, List.getElem?_range h]
  rfl
def sx_uf (F : Nat → Nat → Int) (p k : Nat) (v : Int) : Nat → Nat → Int := fun p' k' => cond (Nat.beq p' p && Nat.beq k' k) v (F p' k')
theorem sx_uf_if (F : Nat → Nat → Int) (p k : Nat) (v : Int) (p' k' : Nat) : sx_uf F p k v p' k' = if p' = p ∧ k' = k then v else F p' k' := by
  unfold sx_uf
  by_cases h1 : p' = p
  · by_cases h2 : k' = k
    · subst h1; subst h2; simp
    · have : Nat.beq k' k = false := by rw [← Bool.not_eq_true]; exact fun q => h2 (Nat.eq_of_beq_eq_true q)
      simp [h2, this]
  · have : Nat.beq p' p = false := by rw [← Bool.not_eq_true]; exact fun q => h1 (Nat.eq_of_beq_eq_true q)
    simp [h1, this]
theorem sx_fs_set (F : Nat → Nat → Int) (p k : Nat) (v : Int) (ks : List Nat) {kd : Nat} (hk : ks[k]? = some kd) (hkd : kd < 2) : (ks.mapIdx (fun k kd => sx_fv (F p) k kd)).set k (.int (Int32.ofInt v)) = ks.mapIdx (fun j kd => sx_fv (sx_uf F p k v p) j kd) := by
  apply List.ext_getElem?
  intro j
  have hl : k < ks.length := (List.getElem?_eq_some_iff.mp hk).1
  by_cases hj : k = j
  · subst hj
    rw [List.getElem?_set_self (by rw [List.length_mapIdx]; exact hl), List.getElem?_mapIdx, hk]
    have : sx_uf F p k v p k = v := by rw [sx_uf_if]; simp
    match kd, hkd with
    | 0, _ => simp [sx_fv, this]
    | 1, _ => simp [sx_fv, this]
  · rw [List.getElem?_set_ne hj, List.getElem?_mapIdx, List.getElem?_mapIdx]
    cases hq : ks[j]? with
    | none => rfl
    | some kd' =>
      have : sx_uf F p k v p j = F p j := by rw [sx_uf_if, if_neg (fun q => hj q.2.symm)]
      match kd' with
      | 0 => simp [sx_fv, this]
      | 1 => simp [sx_fv, this]
      | _ + 2 => rfl
theorem sx_fv_ne {F : Nat → Nat → Int} {p p' k : Nat} {v : Int} (h : p' ≠ p) : sx_uf F p k v p' = F p' := by
  funext j
  rw [sx_uf_if, if_neg (fun q => h q.1)]
theorem sx_hp_ext {s t : sx_S} {p : Nat} {e : va_E} (hw : t.2.2.2 = s.2.2.2) (he : ∀ x, sx_sh[p]? = some x → e = sx_cell t p x) (hp : p < 125) (h1 : ∀ q, q ≠ p → t.1 q = s.1 q ∧ t.2.1 q = s.2.1 q) (h2 : t.2.2.1 = s.2.2.1) : (sx_hp s).set p e = sx_hp t := by
  apply List.ext_getElem?
  intro j
  have hpl : p < sx_sh.length := by rw [sx_sh_len]; exact hp
  by_cases hj : p = j
  · subst hj
    rw [List.getElem?_set_self (by rw [sx_hp_len]; omega), sx_hp_at (List.getElem?_eq_getElem hpl), he _ (List.getElem?_eq_getElem hpl)]
  · rw [List.getElem?_set_ne hj]
    by_cases hjl : j < 125
    · have hl : j < sx_sh.length := by rw [sx_sh_len]; exact hjl
      rw [sx_hp_at (List.getElem?_eq_getElem hl), sx_hp_at (List.getElem?_eq_getElem hl)]
      obtain ⟨a1, a2⟩ := h1 j (fun q => hj q.symm)
      congr 1
      unfold sx_cell
      rw [a1, a2]
    · by_cases hjw : j < 125 + s.2.2.2
      · obtain ⟨o, rfl⟩ := Nat.le.dest (Nat.not_lt.mp hjl)
        rw [sx_hp_own (by omega), sx_hp_own (by omega)]
        unfold sx_own
        rw [h2]
      · rw [List.getElem?_eq_none (by rw [sx_hp_len]; omega), List.getElem?_eq_none (by rw [sx_hp_len]; omega)]
theorem sx_hp_own_set {s : sx_S} {o : Nat} {f : Nat → Int} (ho : o < s.2.2.2) : (sx_hp s).set (125 + o) (.inl (0, 8, .inl (fun j => Int32.ofInt (f j)))) = sx_hp (s.1, s.2.1, (fun o' => if o' = o then f else s.2.2.1 o'), s.2.2.2) := by
  apply List.ext_getElem?
  intro j
  by_cases hj : 125 + o = j
  · subst hj
    rw [List.getElem?_set_self (by rw [sx_hp_len]; omega), sx_hp_own (s := (s.1, s.2.1, (fun o' => if o' = o then f else s.2.2.1 o'), s.2.2.2)) ho]
    simp [sx_own]
  · rw [List.getElem?_set_ne hj]
    by_cases hjl : j < 125
    · have hl : j < sx_sh.length := by rw [sx_sh_len]; exact hjl
      rw [sx_hp_at (List.getElem?_eq_getElem hl), sx_hp_at (List.getElem?_eq_getElem hl)]
      rfl
    · by_cases hjw : j < 125 + s.2.2.2
      · obtain ⟨o', rfl⟩ := Nat.le.dest (Nat.not_lt.mp hjl)
        have : o' ≠ o := fun q => hj (by rw [q])
        rw [sx_hp_own (by omega), sx_hp_own (s := (s.1, s.2.1, (fun o' => if o' = o then f else s.2.2.1 o'), s.2.2.2)) (by show o' < s.2.2.2; omega)]
        simp [sx_own, this]
      · rw [List.getElem?_eq_none (by rw [sx_hp_len]; omega), List.getElem?_eq_none (by rw [sx_hp_len]; show 125 + s.2.2.2 ≤ j; omega)]
theorem sx_hp_push (s : sx_S) : sx_hp s ++ [.inl (0, 8, .inl (fun _ => 0))] = sx_hp (s.1, s.2.1, (fun o j => cond (Nat.beq o s.2.2.2) 0 (s.2.2.1 o j)), s.2.2.2 + 1) := by
  unfold sx_hp
  rw [List.append_assoc, List.range_succ, List.map_append]
  congr 1
  congr 1
  · apply List.map_congr_left
    intro o ho
    have ho' := List.mem_range.mp ho
    unfold sx_own
    have : Nat.beq o s.2.2.2 = false := by rw [← Bool.not_eq_true]; exact fun q => by have := Nat.eq_of_beq_eq_true q; omega
    simp [this]
  · simp [sx_own]
