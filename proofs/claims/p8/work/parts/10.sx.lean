section
/-! ===== THE MACHINE OVER INTEGERS: every cell that the two constructors leave has its place; a state is what the fields and the arrays hold, as integers; small arrays made later are numbered from 0 on ===== -/
abbrev sx_V : Type := Sum Int (Sum Nat Nat)
abbrev sx_S : Type := (Nat → Nat → Int) × (Nat → Nat → Int) × (Nat → Nat → Int) × Nat
abbrev sx_L : Type := List (Nat × sx_V)
/-- the cells: an object's sort and its fields (0 int, 1 boolean, 2 + p the cell p), or an array's sort and length -/
def sx_sh : List (Sum (Nat × List Nat) (Nat × Nat)) := [
  .inl (11, [3, 0, 1, 0, 0, 0, 4, 9, 20, 40, 57]), .inr (0, 240), .inl (8, [5, 6, 7, 8, 0, 0]), .inr (0, 240), .inr (0, 240), .inr (0, 240), .inr (0, 240), .inl (2, [4, 0]),
  .inl (9, [11, 12, 0]), .inr (0, 256), .inr (0, 256), .inl (7, [10, 14, 15, 16, 17, 18, 0, 19, 0]), .inr (0, 1024), .inr (0, 1024), .inr (0, 1024), .inr (0, 1024),
  .inr (0, 1024), .inr (0, 512), .inl (1, [4, 10, 13, 21, 24, 27, 28, 29, 30, 0, 0, 0, 0, 0, 0]), .inl (4, [22, 23, 0]), .inr (0, 8), .inr (0, 8), .inl (4, [25, 26, 0]), .inr (0, 5),
  .inr (0, 5), .inr (0, 5), .inr (0, 8), .inr (0, 21), .inr (0, 21), .inl (3, [32, 33, 34, 0]), .inr (0, 1024), .inr (0, 1024),
  .inr (0, 1024), .inl (0, [13, 31, 36, 37, 38, 39, 0, 0, 0]), .inr (0, 32), .inr (0, 32), .inr (0, 128), .inr (0, 128), .inl (6, [13, 31, 35, 41, 48, 55, 56, 0, 0, 0, 0, 0, 0]), .inl (5, [42, 43, 44, 45, 46, 47, 0]),
  .inr (0, 512), .inr (0, 512), .inr (0, 512), .inr (0, 512), .inr (0, 512), .inr (0, 512), .inl (5, [49, 50, 51, 52, 53, 54, 0]), .inr (0, 512),
  .inr (0, 512), .inr (0, 512), .inr (0, 512), .inr (0, 512), .inr (0, 512), .inr (0, 32), .inr (0, 4), .inl (10, [20, 10, 13, 31, 35, 58, 65, 66, 0, 67, 0, 0]),
  .inl (5, [59, 60, 61, 62, 63, 64, 0]), .inr (0, 512), .inr (0, 512), .inr (0, 512), .inr (0, 512), .inr (0, 512), .inr (0, 512), .inr (0, 32),
  .inr (0, 128), .inr (0, 4000), .inl (12, [69, 0, 70, 0, 71, 72, 73, 0, 1, 0, 74, 75, 0, 76, 77, 78, 79, 80, 81, 82, 83, 84, 85, 86, 0, 87, 88, 89, 90, 91, 92, 93, 94, 0, 0, 95, 96, 1, 0, 0, 0, 0, 0, 97, 98, 0, 99, 0, 100, 101, 0, 102, 103, 104, 105, 106, 0, 107, 0, 108, 109, 0, 110, 111, 0, 112, 113, 114, 115, 116, 0, 0, 117, 118, 119, 0, 0, 0, 1, 0, 120, 121, 122, 0, 123, 124, 0, 125, 126, 1]), .inr (0, 240), .inr (0, 240), .inr (0, 242), .inr (0, 242), .inr (0, 242),
  .inr (0, 6000), .inr (0, 6000), .inr (0, 600), .inr (0, 600), .inr (0, 600), .inr (0, 600), .inr (0, 600), .inr (0, 600),
  .inr (0, 600), .inr (0, 600), .inr (0, 600), .inr (0, 600), .inr (0, 600), .inr (0, 60), .inr (0, 60), .inr (0, 60),
  .inr (0, 60), .inr (0, 60), .inr (0, 60), .inr (0, 60), .inr (0, 60), .inr (0, 60), .inr (0, 60), .inr (0, 8),
  .inr (0, 8), .inr (0, 5), .inr (0, 4), .inr (0, 4), .inr (0, 60000), .inr (0, 60000), .inr (0, 60000), .inr (0, 60000),
  .inr (0, 60000), .inr (0, 120000), .inr (0, 400000), .inr (0, 400000), .inr (0, 3000), .inr (0, 3000), .inr (0, 20000), .inr (1, 3000),
  .inr (0, 3000), .inr (0, 3000), .inr (0, 3000), .inr (0, 400000), .inr (0, 400000), .inr (0, 400000), .inr (0, 3000), .inr (1, 3000),
  .inr (0, 3000), .inr (0, 20000), .inr (0, 4001), .inr (0, 5), .inr (1, 3000)]
def sx_e (v : sx_V) : Value := match v with
  | .inl z => .int (Int32.ofInt z)
  | .inr (.inl p) => .ref p
  | .inr (.inr o) => .ref (125 + o)
def sx_ed (q : Nat × sx_V) : Nat × Value := (q.1, sx_e q.2)
def sx_fv (F : Nat → Int) (k kd : Nat) : Value := match kd with
  | 0 => .int (Int32.ofInt (F k))
  | 1 => .int (Int32.ofInt (F k))
  | q + 2 => .ref q
def sx_cell (s : sx_S) (p : Nat) (x : Sum (Nat × List Nat) (Nat × Nat)) : va_E := match x with
  | .inl o => .inr (o.1, o.2.mapIdx (fun k kd => sx_fv (s.1 p) k kd))
  | .inr a => .inl (a.1, a.2, .inl (fun j => Int32.ofInt (s.2.1 p j)))
def sx_own (s : sx_S) (o : Nat) : va_E := .inl (0, 8, .inl (fun j => Int32.ofInt (s.2.2.1 o j)))
def sx_hp (s : sx_S) : List va_E := sx_sh.mapIdx (fun p x => sx_cell s p x) ++ (List.range s.2.2.2).map (sx_own s)
theorem sx_sh_len : sx_sh.length = 125 := rfl
theorem sx_hp_len (s : sx_S) : (sx_hp s).length = 125 + s.2.2.2 := by
  unfold sx_hp
  rw [List.length_append, List.length_mapIdx, List.length_map, List.length_range, sx_sh_len]
theorem sx_hp_at {s : sx_S} {p : Nat} {x : Sum (Nat × List Nat) (Nat × Nat)} (h : sx_sh[p]? = some x) : (sx_hp s)[p]? = some (sx_cell s p x) := by
  have hl : p < sx_sh.length := (List.getElem?_eq_some_iff.mp h).1
  unfold sx_hp
  rw [List.getElem?_append_left (by rw [List.length_mapIdx]; exact hl), List.getElem?_mapIdx, h]
  rfl
theorem sx_hp_own {s : sx_S} {o : Nat} (h : o < s.2.2.2) : (sx_hp s)[125 + o]? = some (sx_own s o) := by
  unfold sx_hp
  rw [List.getElem?_append_right (by rw [List.length_mapIdx, sx_sh_len]; exact Nat.le_add_right _ _), List.length_mapIdx, sx_sh_len, Nat.add_sub_cancel_left, List.getElem?_map, List.getElem?_range h]
  rfl
def sx_uf (F : Nat → Nat → Int) (p k : Nat) (v : Int) : Nat → Nat → Int := fun p' k' => cond (Nat.beq p' p && Nat.beq k' k) v (F p' k')
theorem sx_uf_if (F : Nat → Nat → Int) (p k : Nat) (v : Int) (p' k' : Nat) : sx_uf F p k v p' k' = if p' = p ∧ k' = k then v else F p' k' := by
  unfold sx_uf
  by_cases h1 : p' = p
  · by_cases h2 : k' = k
    · subst h1; subst h2; simp
    · have : Nat.beq k' k = false := by rw [← Bool.not_eq_true]; exact fun q => h2 (Nat.eq_of_beq_eq_true q)
      simp [h2, this]
  · have : Nat.beq p' p = false := by rw [← Bool.not_eq_true]; exact fun q => h1 (Nat.eq_of_beq_eq_true q)
    simp [h1, this]
theorem sx_fs_set (F : Nat → Nat → Int) (p k : Nat) (v : Int) (ks : List Nat) {kd : Nat} (hk : ks[k]? = some kd) (hkd : kd < 2) : (ks.mapIdx (fun k kd => sx_fv (F p) k kd)).set k (.int (Int32.ofInt v)) = ks.mapIdx (fun j kd => sx_fv (sx_uf F p k v p) j kd) := by
  apply List.ext_getElem?
  intro j
  have hl : k < ks.length := (List.getElem?_eq_some_iff.mp hk).1
  by_cases hj : k = j
  · subst hj
    rw [List.getElem?_set_self (by rw [List.length_mapIdx]; exact hl), List.getElem?_mapIdx, hk]
    have : sx_uf F p k v p k = v := by rw [sx_uf_if]; simp
    match kd, hkd with
    | 0, _ => simp [sx_fv, this]
    | 1, _ => simp [sx_fv, this]
  · rw [List.getElem?_set_ne hj, List.getElem?_mapIdx, List.getElem?_mapIdx]
    cases hq : ks[j]? with
    | none => rfl
    | some kd' =>
      have : sx_uf F p k v p j = F p j := by rw [sx_uf_if, if_neg (fun q => hj q.2.symm)]
      match kd' with
      | 0 => simp [sx_fv, this]
      | 1 => simp [sx_fv, this]
      | _ + 2 => rfl
theorem sx_fv_ne {F : Nat → Nat → Int} {p p' k : Nat} {v : Int} (h : p' ≠ p) : sx_uf F p k v p' = F p' := by
  funext j
  rw [sx_uf_if, if_neg (fun q => h q.1)]
theorem sx_hp_ext {s t : sx_S} {p : Nat} {e : va_E} (hw : t.2.2.2 = s.2.2.2) (he : ∀ x, sx_sh[p]? = some x → e = sx_cell t p x) (hp : p < 125) (h1 : ∀ q, q ≠ p → t.1 q = s.1 q ∧ t.2.1 q = s.2.1 q) (h2 : t.2.2.1 = s.2.2.1) : (sx_hp s).set p e = sx_hp t := by
  apply List.ext_getElem?
  intro j
  have hpl : p < sx_sh.length := by rw [sx_sh_len]; exact hp
  by_cases hj : p = j
  · subst hj
    rw [List.getElem?_set_self (by rw [sx_hp_len]; omega), sx_hp_at (List.getElem?_eq_getElem hpl), he _ (List.getElem?_eq_getElem hpl)]
  · rw [List.getElem?_set_ne hj]
    by_cases hjl : j < 125
    · have hl : j < sx_sh.length := by rw [sx_sh_len]; exact hjl
      rw [sx_hp_at (List.getElem?_eq_getElem hl), sx_hp_at (List.getElem?_eq_getElem hl)]
      obtain ⟨a1, a2⟩ := h1 j (fun q => hj q.symm)
      congr 1
      unfold sx_cell
      rw [a1, a2]
    · by_cases hjw : j < 125 + s.2.2.2
      · obtain ⟨o, rfl⟩ := Nat.le.dest (Nat.not_lt.mp hjl)
        rw [sx_hp_own (by omega), sx_hp_own (by omega)]
        unfold sx_own
        rw [h2]
      · rw [List.getElem?_eq_none (by rw [sx_hp_len]; omega), List.getElem?_eq_none (by rw [sx_hp_len]; omega)]
theorem sx_hp_own_set {s : sx_S} {o : Nat} {f : Nat → Int} (ho : o < s.2.2.2) : (sx_hp s).set (125 + o) (.inl (0, 8, .inl (fun j => Int32.ofInt (f j)))) = sx_hp (s.1, s.2.1, (fun o' => if o' = o then f else s.2.2.1 o'), s.2.2.2) := by
  apply List.ext_getElem?
  intro j
  by_cases hj : 125 + o = j
  · subst hj
    rw [List.getElem?_set_self (by rw [sx_hp_len]; omega), sx_hp_own (s := (s.1, s.2.1, (fun o' => if o' = o then f else s.2.2.1 o'), s.2.2.2)) ho]
    simp [sx_own]
  · rw [List.getElem?_set_ne hj]
    by_cases hjl : j < 125
    · have hl : j < sx_sh.length := by rw [sx_sh_len]; exact hjl
      rw [sx_hp_at (List.getElem?_eq_getElem hl), sx_hp_at (List.getElem?_eq_getElem hl)]
      rfl
    · by_cases hjw : j < 125 + s.2.2.2
      · obtain ⟨o', rfl⟩ := Nat.le.dest (Nat.not_lt.mp hjl)
        have : o' ≠ o := fun q => hj (by rw [q])
        rw [sx_hp_own (by omega), sx_hp_own (s := (s.1, s.2.1, (fun o' => if o' = o then f else s.2.2.1 o'), s.2.2.2)) (by show o' < s.2.2.2; omega)]
        simp [sx_own, this]
      · rw [List.getElem?_eq_none (by rw [sx_hp_len]; omega), List.getElem?_eq_none (by rw [sx_hp_len]; show 125 + s.2.2.2 ≤ j; omega)]
theorem sx_hp_push (s : sx_S) : sx_hp s ++ [.inl (0, 8, .inl (fun _ => 0))] = sx_hp (s.1, s.2.1, (fun o j => cond (Nat.beq o s.2.2.2) 0 (s.2.2.1 o j)), s.2.2.2 + 1) := by
  unfold sx_hp
  rw [List.append_assoc, List.range_succ, List.map_append]
  congr 1
  congr 1
  · apply List.map_congr_left
    intro o ho
    have ho' := List.mem_range.mp ho
    unfold sx_own
    have : Nat.beq o s.2.2.2 = false := by rw [← Bool.not_eq_true]; exact fun q => by have := Nat.eq_of_beq_eq_true q; omega
    simp [this]
  · simp [sx_own]
end
section
/-! ===== WHAT HOLDS OF THE CELLS at all times: ranges of fields, ranges of what arrays hold ===== -/
def cx_tab : List (Nat × Nat × Int × Int) := [(0, 1, 0, 240), (0, 2, 0, 1), (2, 4, 0, 240), (2, 5, 0, 240), (8, 2, 2, 256), (11, 6, 0, 1024), (11, 8, 0, 512), (18, 9, 0, 21), (18, 10, 0, 4), (19, 2, 0, 8), (22, 2, 0, 5), (29, 3, 0, 1024), (33, 6, 0, 32), (39, 6, 0, 512), (46, 6, 0, 512), (56, 6, 0, 512), (55, 10, 0, 1000000000)]
def cx_atab : List (Nat × Int × Int) := [(1, 0, 255), (3, 0, 255), (5, 0, 239), (6, 0, 240), (14, -1, 1023), (15, -1, 1023), (35, 0, 4)]
def cx_tabR : List (Nat × Nat × Int × Int) := [(66, 1, 0, 240), (66, 3, 0, 240), (66, 7, 0, 241), (66, 8, 0, 1), (66, 9, 0, 6000), (66, 12, 0, 600), (66, 24, 0, 60), (66, 34, 0, 60), (66, 37, 0, 1), (66, 42, 0, 8), (66, 45, 0, 5), (66, 47, 0, 4), (66, 50, 0, 60000), (66, 56, 0, 120000), (66, 58, 0, 400000), (66, 61, 0, 3000), (66, 64, 0, 20000), (66, 71, 0, 400000), (66, 75, 0, 60000), (66, 76, 0, 120000), (66, 77, 0, 400000), (66, 78, 0, 1), (66, 83, 0, 20000), (66, 86, 0, 4001), (66, 89, 0, 1)]
def cx_atabR : List (Nat × Int × Int) := [(67, 0, 255), (68, 0, 255), (70, 0, 240), (71, 0, 240), (72, 0, 5999), (73, 0, 5999), (75, 0, 241), (76, 0, 5999), (77, 0, 241), (79, -1, 241), (80, -1, 599), (81, -1, 599), (83, 0, 3), (84, -1, 5999), (86, 0, 241), (87, 0, 5999), (88, 0, 241), (90, -1, 599), (91, -1, 599), (92, 0, 241), (93, 0, 241), (94, 0, 399999), (95, 0, 241), (96, 0, 5999), (97, 0, 241), (98, 0, 59999), (99, 0, 59999), (100, 0, 3), (102, -1, 59999), (103, -1, 59999), (104, 0, 120000), (106, 0, 5999), (108, 0, 4), (109, 0, 20000), (110, 0, 5999), (111, 0, 1), (112, 0, 120000), (113, 0, 59999), (114, -1, 399999), (117, -1, 399999), (119, 0, 1), (120, 0, 20000), (121, 0, 3), (123, 0, 5999), (124, 0, 1)]
def cx_lk1 : List (Nat × Nat × Int × Int) → Nat → Nat → Int × Int
  | [], _, _ => (-2147483648, 2147483647)
  | q :: l, p, k => cond (Nat.beq q.1 p && Nat.beq q.2.1 k) q.2.2 (cx_lk1 l p k)
def cx_lk2 : List (Nat × Int × Int) → Nat → Int × Int
  | [], _ => (-2147483648, 2147483647)
  | q :: l, p => cond (Nat.beq q.1 p) q.2 (cx_lk2 l p)
def cx_rng (p k : Nat) : Int × Int := cond (Nat.blt p 66) (cx_lk1 cx_tab p k) (cx_lk1 cx_tabR p k)
def cx_arg (p : Nat) : Int × Int := cond (Nat.blt p 66) (cx_lk2 cx_atab p) (cx_lk2 cx_atabR p)
/-- fields and arrays lie in their ranges; no node has more ARGs than there are nodes -/
def cx_at (b p j : Nat) (s : sx_S) : Prop := match b with
  | 0 => (cx_rng p j).1 ≤ s.1 p j ∧ s.1 p j ≤ (cx_rng p j).2
  | 1 => (cx_arg p).1 ≤ s.2.1 p j ∧ s.2.1 p j ≤ (cx_arg p).2
  | _ => (j : Int) < s.1 11 6 → s.2.1 16 j ≤ s.1 11 6
def cx_I (s : sx_S) : Prop := ∀ (b p j : Nat), p < 125 → cx_at b p j s
theorem cx_I.fld {s : sx_S} (h : cx_I s) {lo hi : Int} (p k : Nat) (hp : p < 125) (hr : cx_rng p k = (lo, hi)) : lo ≤ s.1 p k ∧ s.1 p k ≤ hi := by
  have : (cx_rng p k).1 ≤ s.1 p k ∧ s.1 p k ≤ (cx_rng p k).2 := h 0 p k hp
  rw [hr] at this
  exact this
theorem cx_I.arr {s : sx_S} (h : cx_I s) {lo hi : Int} (p : Nat) (hp : p < 125) (hr : cx_arg p = (lo, hi)) : ∀ j, lo ≤ s.2.1 p j ∧ s.2.1 p j ≤ hi := by
  intro j
  have : (cx_arg p).1 ≤ s.2.1 p j ∧ s.2.1 p j ≤ (cx_arg p).2 := h 1 p j hp
  rw [hr] at this
  exact this
theorem cx_I.ar {s : sx_S} (h : cx_I s) (j : Nat) : (j : Int) < s.1 11 6 → s.2.1 16 j ≤ s.1 11 6 := h 2 0 j (by decide)
end
section
/-! ===== a step over integers, as what must hold for it to go on ===== -/
def sx_n (z : Int) : Int := (z + 2147483648) % 4294967296 - 2147483648
def sx_w (wr : Bool) (z : Int) : Int := cond wr (sx_n z) z
def sx_in (z : Int) : Prop := -2147483648 ≤ z ∧ z ≤ 2147483647
def sx_at : sx_L → Nat → Option sx_V
  | [], _ => none
  | q :: l, i => cond (Nat.beq q.1 i) (some q.2) (sx_at l i)
def sx_rm : sx_L → Nat → sx_L
  | [], _ => []
  | q :: l, i => cond (Nat.beq q.1 i) (sx_rm l i) (q :: sx_rm l i)
def sx_put (ls : sx_L) (i : Nat) (v : sx_V) : sx_L := (i, v) :: sx_rm ls i
def sx_ua (A : Nat → Nat → Int) (p j : Nat) (v : Int) : Nat → Nat → Int := fun p' j' => cond (Nat.beq p' p) (if j' = j then v else A p' j') (A p' j')
def sx_ob (i : Nat) : Option (Nat × List Nat) := match sx_sh[i]? with
  | some (.inl o) => some o
  | _ => none
def sx_ar (i : Nat) : Option (Nat × Nat) := match sx_sh[i]? with
  | some (.inr a) => some a
  | _ => none
abbrev sx_K : Type := Nat → sx_L → List sx_V → sx_S → Prop
def sx_li (i : Nat) (ls : sx_L) (k : sx_V → Prop) : Prop := match sx_at ls i with
  | some (.inl x) => k (.inl x)
  | _ => False
def sx_la (i : Nat) (ls : sx_L) (k : sx_V → Prop) : Prop := match sx_at ls i with
  | some (.inr x) => k (.inr x)
  | _ => False
def sx_si (st : List sx_V) (k : sx_V → List sx_V → Prop) : Prop := match st with
  | .inl x :: r => k (.inl x) r
  | _ => False
def sx_sa (st : List sx_V) (k : sx_V → List sx_V → Prop) : Prop := match st with
  | .inr x :: r => k (.inr x) r
  | _ => False
def sx_1 (f : Int → Int) (st : List sx_V) (k : List sx_V → Prop) : Prop := match st with
  | .inl x :: r => k (.inl (f x) :: r)
  | _ => False
def sx_2 (f : Int → Int → Int) (st : List sx_V) (k : List sx_V → Prop) : Prop := match st with
  | .inl y :: .inl x :: r => k (.inl (f x y) :: r)
  | _ => False
def sx_b (f : Int32 → Int32 → Int32) (x y : Int) : Int := (f (Int32.ofInt x) (Int32.ofInt y)).toInt
def sx_2b (f : Int32 → Int32 → Int32) (g : Int → Int → Int → Prop) (st : List sx_V) (k : List sx_V → Prop) : Prop := match st with
  | .inl y :: .inl x :: r => True ∧ ∀ v, v = sx_b f x y → -2147483648 ≤ v → v ≤ 2147483647 → g x y v → k (.inl v :: r)
  | _ => False
def sx_2d (wr : Bool) (f : Int → Int → Int) (st : List sx_V) (k : List sx_V → Prop) : Prop := match st with
  | .inl y :: .inl x :: r => cond wr (((sx_in x ∧ sx_in y) ∧ y ≠ 0) ∧ ∀ v, v = sx_n (f x y) → -2147483648 ≤ v → v ≤ 2147483647 → k (.inl v :: r)) (((sx_in x ∧ sx_in y) ∧ y ≠ 0) ∧ k (.inl (f x y) :: r))
  | _ => False
def sx_b1 (P Q : Int → Prop) (st : List sx_V) (kt kf : List sx_V → Prop) : Prop := match st with
  | .inl x :: r => sx_in x ∧ ((P x → kt r) ∧ (Q x → kf r))
  | _ => False
def sx_b2 (P Q : Int → Int → Prop) (st : List sx_V) (kt kf : List sx_V → Prop) : Prop := match st with
  | .inl y :: .inl x :: r => (sx_in x ∧ sx_in y) ∧ ((P x y → kt r) ∧ (Q x y → kf r))
  | _ => False
def sx_sw (x lo : Int) (pc : Nat) (k : Nat → Prop) : List Int → Nat → Prop
  | [], _ => True
  | off :: l, i => (x = lo + (i : Int) → 0 ≤ (pc : Int) + off ∧ k ((pc : Int) + off).toNat) ∧ sx_sw x lo pc k l (i + 1)
/-- what is read from the desk's cells lies in its range -/
def sx_ld (wr : Bool) (i : Nat) (rg : Int × Int) (x : Int) (s : sx_S) (k : Int → Prop) : Prop := cond (wr && Nat.blt i 125) (match rg with
  | (lo, hi) => cx_I s ∧ ∀ v, v = x → lo ≤ v → v ≤ hi → k v) (k x)
def sx_get (wr : Bool) (ci k : Nat) (st : List sx_V) (s : sx_S) (kk : List sx_V → Prop) : Prop := match st with
  | .inr (.inl i) :: r => cond (Nat.beq ci 13) (cond (mx_isS i) (cond (Nat.beq k 0) (kk (.inr (.inl (i + 1)) :: r)) (kk (.inl 0 :: r))) False) (match sx_ob i with
    | some o => cond (Nat.beq o.1 ci) (match o.2[k]? with
      | some 0 => sx_ld wr i (cx_rng i k) (s.1 i k) s (fun v => kk (.inl v :: r))
      | some 1 => sx_ld wr i (cx_rng i k) (s.1 i k) s (fun v => kk (.inl v :: r))
      | some (q + 2) => kk (.inr (.inl q) :: r)
      | none => False) False
    | none => False)
  | _ => False
def sx_ptf (ci k : Nat) (st : List sx_V) (s : sx_S) (kk : List sx_V → sx_S → Prop) : Prop := match st with
  | .inl v :: .inr (.inl i) :: r => match sx_ob i with
    | some o => cond (Nat.beq o.1 ci) (match o.2[k]? with
      | some 0 => kk r (sx_uf s.1 i k v, s.2)
      | some 1 => (v = 0 ∨ v = 1) ∧ kk r (sx_uf s.1 i k v, s.2)
      | _ => False) False
    | none => False
  | _ => False
def sx_ald (wr : Bool) (sL : Nat) (sx : Nat → Int32) (st : List sx_V) (s : sx_S) (kk : List sx_V → Prop) : Prop := match st with
  | .inl j :: .inr (.inl i) :: r => cond (Nat.beq i 1000000) ((0 ≤ j ∧ j < (sL : Int)) ∧ kk (.inl (sx j.toNat).toInt :: r)) (match sx_ar i with
    | some (0, n) => (0 ≤ j ∧ j < (n : Int)) ∧ sx_ld wr i (cx_arg i) (s.2.1 i j.toNat) s (fun v => kk (.inl v :: r))
    | _ => False)
  | .inl j :: .inr (.inr o) :: r => (o < s.2.2.2 ∧ 0 ≤ j ∧ j < 8) ∧ kk (.inl (s.2.2.1 o j.toNat) :: r)
  | _ => False
def sx_ast (st : List sx_V) (s : sx_S) (kk : List sx_V → sx_S → Prop) : Prop := match st with
  | .inl v :: .inl j :: .inr (.inl i) :: r => match sx_ar i with
    | some (0, n) => (0 ≤ j ∧ j < (n : Int)) ∧ kk r (s.1, sx_ua s.2.1 i j.toNat v, s.2.2)
    | _ => False
  | .inl v :: .inl j :: .inr (.inr o) :: r => (o < s.2.2.2 ∧ 0 ≤ j ∧ j < 8) ∧ kk r (s.1, s.2.1, (fun o' => if o' = o then (fun j' => if j' = j.toNat then v else s.2.2.1 o j') else s.2.2.1 o'), s.2.2.2)
  | _ => False
def sx_fz (n : Nat) (k : Nat → Prop) : Prop := match n with
  | 0 => k 0
  | m + 1 => k (m + 1)
def sx_zld (wr : Bool) (st : List sx_V) (s : sx_S) (kk : List sx_V → Prop) : Prop := match st with
  | .inl j :: .inr (.inl i) :: r => cond (mx_isB i) (sx_fz (mx_sln.getD ((i - 1000002) / 2) 0) (fun n => (0 ≤ j ∧ j < (n : Int)) ∧ ∀ v, v = ((mx_sby.getD ((i - 1000002) / 2) []).getD j.toNat 0).toInt → -2147483648 ≤ v → v ≤ 2147483647 → kk (.inl v :: r))) (match sx_ar i with
    | some (1, n) => (0 ≤ j ∧ j < (n : Int)) ∧ sx_ld wr i (cx_arg i) (s.2.1 i j.toNat) s (fun v => kk (.inl v :: r))
    | _ => False)
  | _ => False
def sx_zst (st : List sx_V) (s : sx_S) (kk : List sx_V → sx_S → Prop) : Prop := match st with
  | .inl v :: .inl j :: .inr (.inl i) :: r => match sx_ar i with
    | some (1, n) => ((v = 0 ∨ v = 1) ∧ 0 ≤ j ∧ j < (n : Int)) ∧ kk r (s.1, sx_ua s.2.1 i j.toNat v, s.2.2)
    | _ => False
  | _ => False
def sx_len (sL : Nat) (st : List sx_V) (kk : List sx_V → Prop) : Prop := match st with
  | .inr (.inl i) :: r => cond (mx_isB i) (sx_fz (mx_sln.getD ((i - 1000002) / 2) 0) (fun n => kk (.inl (n : Int) :: r))) (cond (Nat.beq i 1000000) (kk (.inl (sL : Int) :: r)) (match sx_ar i with
    | some (_, n) => kk (.inl (n : Int) :: r)
    | none => False))
  | _ => False
def sx_new (st : List sx_V) (s : sx_S) (kk : List sx_V → sx_S → Prop) : Prop := match st with
  | .inl n :: r => (n = 8 ∧ s.2.2.2 < 500000) ∧ kk (.inr (.inr s.2.2.2) :: r) (s.1, s.2.1, (fun o j => cond (Nat.beq o s.2.2.2) 0 (s.2.2.1 o j)), s.2.2.2 + 1)
  | _ => False
def sx_d1 (st : List sx_V) (kk : List sx_V → Prop) : Prop := match st with
  | a :: r => kk (a :: a :: r)
  | _ => False
def sx_pop (st : List sx_V) (kk : List sx_V → Prop) : Prop := match st with
  | _ :: r => kk r
  | _ => False
def sx_dx1 (st : List sx_V) (kk : List sx_V → Prop) : Prop := match st with
  | a :: b :: r => kk (a :: b :: a :: r)
  | _ => False
def sx_dx2 (st : List sx_V) (kk : List sx_V → Prop) : Prop := match st with
  | a :: b :: d :: r => kk (a :: b :: d :: a :: r)
  | _ => False
def sx_d2 (st : List sx_V) (kk : List sx_V → Prop) : Prop := match st with
  | a :: b :: r => kk (a :: b :: a :: b :: r)
  | _ => False
def sx_st (wr : Bool) (sL : Nat) (sx : Nat → Int32) (ins : Instr) (a b : Nat) (pc : Nat) (ls : sx_L) (st : List sx_V) (s : sx_S) (K : sx_K) : Prop := match ins with
  | .iconst n => K (pc + 1) ls (.inl n :: st) s
  | .bipush n => cond (decide (-128 ≤ n) && decide (n ≤ 127)) (K (pc + 2) ls (.inl n :: st) s) False
  | .sipush n => cond (decide (-32768 ≤ n) && decide (n ≤ 32767)) (K (pc + 3) ls (.inl n :: st) s) False
  | .ldc _ => cond (Nat.beq b 1) (K (pc + 2) ls (.inr (.inl (1000001 + 2 * a)) :: st) s) (K (pc + 2) ls (.inl (a : Int) :: st) s)
  | .iload_n i => sx_li i.val ls (fun v => K (pc + 1) ls (v :: st) s)
  | .iload i => sx_li i ls (fun v => K (pc + 2) ls (v :: st) s)
  | .aload_n i => sx_la i.val ls (fun v => K (pc + 1) ls (v :: st) s)
  | .aload i => sx_la i ls (fun v => K (pc + 2) ls (v :: st) s)
  | .istore_n i => sx_si st (fun v r => K (pc + 1) (sx_put ls i.val v) r s)
  | .istore i => sx_si st (fun v r => K (pc + 2) (sx_put ls i v) r s)
  | .astore_n i => sx_sa st (fun v r => K (pc + 1) (sx_put ls i.val v) r s)
  | .astore i => sx_sa st (fun v r => K (pc + 2) (sx_put ls i v) r s)
  | .iinc i n => match sx_at ls i with
    | some (.inl x) => K (pc + 3) (sx_put ls i (.inl (sx_w wr (x + n)))) st s
    | _ => False
  | .iadd => sx_2 (fun x y => sx_w wr (x + y)) st (fun r => K (pc + 1) ls r s)
  | .isub => sx_2 (fun x y => sx_w wr (x - y)) st (fun r => K (pc + 1) ls r s)
  | .imul => sx_2 (fun x y => sx_w wr (x * y)) st (fun r => K (pc + 1) ls r s)
  | .iand => sx_2b (fun x y => x &&& y) (fun _ y v => 0 ≤ y → y ≤ 2147483647 → 0 ≤ v ∧ v ≤ y) st (fun r => K (pc + 1) ls r s)
  | .ior => sx_2b (fun x y => x ||| y) (fun x y v => 0 ≤ x → x ≤ 1 → 0 ≤ y → y ≤ 1 → 0 ≤ v ∧ v ≤ 1) st (fun r => K (pc + 1) ls r s)
  | .ishl => sx_2b (fun x y => x <<< (y &&& 31)) (fun _ _ _ => True) st (fun r => K (pc + 1) ls r s)
  | .ishr => sx_2b (fun x y => x >>> (y &&& 31)) (fun _ _ _ => True) st (fun r => K (pc + 1) ls r s)
  | .iushr => sx_2b (fun x y => (x.toUInt32 >>> (y.toUInt32 &&& Int32.toUInt32 31)).toInt32) (fun _ _ _ => True) st (fun r => K (pc + 1) ls r s)
  | .idiv => sx_2d wr (fun x y => x.tdiv y) st (fun r => K (pc + 1) ls r s)
  | .irem => sx_2d wr (fun x y => x - x.tdiv y * y) st (fun r => K (pc + 1) ls r s)
  | .i2c => sx_1 (fun x => x % 65536) st (fun r => K (pc + 1) ls r s)
  | .i2b => sx_1 (fun x => (x + 128) % 256 - 128) st (fun r => K (pc + 1) ls r s)
  | .ifCond .eq _ => sx_b1 (fun x => x = 0) (fun x => x ≠ 0) st (fun r => K a ls r s) (fun r => K (pc + 3) ls r s)
  | .ifCond .ne _ => sx_b1 (fun x => x ≠ 0) (fun x => x = 0) st (fun r => K a ls r s) (fun r => K (pc + 3) ls r s)
  | .ifCond .lt _ => sx_b1 (fun x => x < 0) (fun x => 0 ≤ x) st (fun r => K a ls r s) (fun r => K (pc + 3) ls r s)
  | .ifCond .ge _ => sx_b1 (fun x => 0 ≤ x) (fun x => x < 0) st (fun r => K a ls r s) (fun r => K (pc + 3) ls r s)
  | .ifCond .gt _ => sx_b1 (fun x => 0 < x) (fun x => x ≤ 0) st (fun r => K a ls r s) (fun r => K (pc + 3) ls r s)
  | .ifCond .le _ => sx_b1 (fun x => x ≤ 0) (fun x => 0 < x) st (fun r => K a ls r s) (fun r => K (pc + 3) ls r s)
  | .if_icmp .eq _ => sx_b2 (fun x y => x = y) (fun x y => x ≠ y) st (fun r => K a ls r s) (fun r => K (pc + 3) ls r s)
  | .if_icmp .ne _ => sx_b2 (fun x y => x ≠ y) (fun x y => x = y) st (fun r => K a ls r s) (fun r => K (pc + 3) ls r s)
  | .if_icmp .lt _ => sx_b2 (fun x y => x < y) (fun x y => y ≤ x) st (fun r => K a ls r s) (fun r => K (pc + 3) ls r s)
  | .if_icmp .ge _ => sx_b2 (fun x y => y ≤ x) (fun x y => x < y) st (fun r => K a ls r s) (fun r => K (pc + 3) ls r s)
  | .if_icmp .gt _ => sx_b2 (fun x y => y < x) (fun x y => x ≤ y) st (fun r => K a ls r s) (fun r => K (pc + 3) ls r s)
  | .if_icmp .le _ => sx_b2 (fun x y => x ≤ y) (fun x y => y < x) st (fun r => K a ls r s) (fun r => K (pc + 3) ls r s)
  | .goto _ => K a ls st s
  | .tableswitch dflt lo hi offs => match st with
    | .inl x :: r => sx_in x ∧ ((x < lo ∨ hi < x) → 0 ≤ (pc : Int) + dflt ∧ K ((pc : Int) + dflt).toNat ls r s) ∧ (hi - lo < offs.size ∧ sx_sw x lo pc (fun t => K t ls r s) offs.toList 0)
    | _ => False
  | .getstatic _ => K (pc + 3) ls (.inl 1 :: st) s
  | .getfield _ => sx_get wr a b st s (fun r => K (pc + 3) ls r s)
  | .putfield _ => sx_ptf a b st s (fun r t => K (pc + 3) ls r t)
  | .iaload => sx_ald wr sL sx st s (fun r => K (pc + 1) ls r s)
  | .iastore => sx_ast st s (fun r t => K (pc + 1) ls r t)
  | .baload => sx_zld wr st s (fun r => K (pc + 1) ls r s)
  | .bastore => sx_zst st s (fun r t => K (pc + 1) ls r t)
  | .arraylength => sx_len sL st (fun r => K (pc + 1) ls r s)
  | .newarray .int => sx_new st s (fun r t => K (pc + 2) ls r t)
  | .dup => sx_d1 st (fun r => K (pc + 1) ls r s)
  | .pop => sx_pop st (fun r => K (pc + 1) ls r s)
  | .dup_x1 => sx_dx1 st (fun r => K (pc + 1) ls r s)
  | .dup_x2 => sx_dx2 st (fun r => K (pc + 1) ls r s)
  | .dup2 => sx_d2 st (fun r => K (pc + 1) ls r s)
  | _ => False
/-! ===== the evaluator takes the step over integers ===== -/
theorem sx_toInt {z : Int} (h : sx_in z) : (Int32.ofInt z).toInt = z := Int32.toInt_ofInt_of_le h.1 (Int.lt_of_le_of_lt h.2 (by decide))
theorem sx_inj {x y : Int} (hx : sx_in x) (hy : sx_in y) : Int32.ofInt x = Int32.ofInt y ↔ x = y := ⟨fun h => by rw [← sx_toInt hx, ← sx_toInt hy, h], fun h => by rw [h]⟩
theorem sx_lt {x y : Int} (hx : sx_in x) (hy : sx_in y) : Int32.ofInt x < Int32.ofInt y ↔ x < y := by
  rw [Int32.lt_iff_toInt_lt, sx_toInt hx, sx_toInt hy]
theorem sx_le {x y : Int} (hx : sx_in x) (hy : sx_in y) : Int32.ofInt x ≤ Int32.ofInt y ↔ x ≤ y := by
  rw [Int32.le_iff_toInt_le, sx_toInt hx, sx_toInt hy]
theorem sx_in0 : sx_in 0 := ⟨by decide, by decide⟩
theorem sx_z0 : (0 : Int32) = Int32.ofInt 0 := rfl
theorem sx_nat {z : Int} (h0 : 0 ≤ z) (h1 : z < 2147483648) : (Int32.ofInt z).toNatClampNeg = z.toNat := by
  rw [← Int32.toNat_toInt, sx_toInt ⟨by omega, by omega⟩]
theorem sx_mxin {z : Int} {n : Nat} (h0 : 0 ≤ z) (h1 : z < (n : Int)) (hn : n ≤ 1000000) : mx_in (Int32.ofInt z) n = true := by
  unfold mx_in
  refine decide_eq_true ?_
  rintro (h | h)
  · rw [sx_z0, sx_lt ⟨by omega, by omega⟩ sx_in0] at h
    omega
  · rw [sx_nat h0 (by omega)] at h
    omega
theorem sx_n_of (z : Int) : Int32.ofInt (sx_n z) = Int32.ofInt z := by
  apply Int32.toInt_inj.mp
  rw [Int32.toInt_ofInt, Int32.toInt_ofInt]
  unfold sx_n
  show Int.bmod _ 4294967296 = Int.bmod z 4294967296
  rw [Int.bmod_def, Int.bmod_def]
  have e : ((z + 2147483648) % 4294967296 - 2147483648) % ((4294967296 : Nat) : Int) = z % ((4294967296 : Nat) : Int) := by
    show ((z + 2147483648) % 4294967296 - 2147483648) % 4294967296 = z % 4294967296
    omega
  rw [e]
theorem sx_w_of (wr : Bool) (z : Int) : Int32.ofInt (sx_w wr z) = Int32.ofInt z := by
  cases wr
  · rfl
  · exact sx_n_of z
theorem sx_n_in (z : Int) : sx_in (sx_n z) := by
  unfold sx_n sx_in
  omega
theorem sx_at_ed : ∀ (ls : sx_L) (i : Nat), mx_at (ls.map sx_ed) i = (sx_at ls i).map sx_e
  | [], _ => rfl
  | q :: l, i => by
    show cond (Nat.beq q.1 i) (some (sx_e q.2)) (mx_at (l.map sx_ed) i) = (cond (Nat.beq q.1 i) (some q.2) (sx_at l i)).map sx_e
    rw [sx_at_ed l i]
    cases Nat.beq q.1 i <;> rfl
theorem sx_e_cat (v : sx_V) : (sx_e v).category = 1 := by
  unfold sx_e
  split <;> rfl
theorem sx_rm_ed : ∀ (ls : sx_L) (i : Nat), (ls.map sx_ed).filter (mx_keep i) = (sx_rm ls i).map sx_ed
  | [], _ => rfl
  | q :: l, i => by
    have e : mx_keep i (sx_ed q) = !(Nat.beq q.1 i) := by
      unfold mx_keep sx_ed
      have : ((sx_e q.2).category == 2) = false := by rw [sx_e_cat]; rfl
      simp [this]
      by_cases h : q.1 = i
      · subst h; simp
      · have : Nat.beq q.1 i = false := by rw [← Bool.not_eq_true]; exact fun z => h (Nat.eq_of_beq_eq_true z)
        simp [h, this]
    rw [List.map_cons, List.filter_cons, e, sx_rm_ed l i]
    show _ = (cond (Nat.beq q.1 i) (sx_rm l i) (q :: sx_rm l i)).map sx_ed
    cases Nat.beq q.1 i <;> rfl
theorem sx_put_ed (ls : sx_L) (i : Nat) (v : sx_V) : mx_put (ls.map sx_ed) i (sx_e v) = (sx_put ls i v).map sx_ed := by
  unfold mx_put sx_put
  rw [sx_rm_ed]
  rfl
theorem sx_ob_at {s : sx_S} {i : Nat} {o : Nat × List Nat} (h : sx_ob i = some o) : sx_sh[i]? = some (.inl o) ∧ i < 125 := by
  unfold sx_ob at h
  split at h
  · rename_i o' hq
    cases h
    exact ⟨hq, by rw [← sx_sh_len]; exact (List.getElem?_eq_some_iff.mp hq).1⟩
  · cases h
theorem sx_ar_at {i : Nat} {a : Nat × Nat} (h : sx_ar i = some a) : sx_sh[i]? = some (.inr a) ∧ i < 125 := by
  unfold sx_ar at h
  split at h
  · rename_i o' hq
    cases h
    exact ⟨hq, by rw [← sx_sh_len]; exact (List.getElem?_eq_some_iff.mp hq).1⟩
  · cases h
/-- the table: lengths are small; a field that is an int or a boolean here is one there -/
theorem sx_sh_ok : sx_sh.all (fun x => match x with
  | .inl o => (List.range o.2.length).all (fun k => match o.2[k]? with
    | some 0 => decide (mx_ty o.1 k = .int)
    | some 1 => decide (mx_ty o.1 k = .boolean)
    | _ => true)
  | .inr a => Nat.ble a.2 1000000 && Nat.blt a.1 3) = true := by decide +kernel
theorem sx_ar_len {i : Nat} {a : Nat × Nat} (h : sx_ar i = some a) : a.2 ≤ 1000000 ∧ a.1 < 3 := by
  have h1 := List.all_eq_true.mp sx_sh_ok _ (List.mem_of_getElem? (sx_ar_at h).1)
  rw [Bool.and_eq_true] at h1
  exact ⟨Nat.ble_eq.mp h1.1, Nat.ble_eq.mp h1.2⟩
theorem sx_ob_ty {i k : Nat} {o : Nat × List Nat} (h : sx_ob i = some o) : (o.2[k]? = some 0 → mx_ty o.1 k = .int) ∧ (o.2[k]? = some 1 → mx_ty o.1 k = .boolean) := by
  have h1 := List.all_eq_true.mp sx_sh_ok _ (List.mem_of_getElem? (sx_ob_at (s := (fun _ _ => 0, fun _ _ => 0, fun _ _ => 0, 0)) h).1)
  refine ⟨fun hk => ?_, fun hk => ?_⟩
  · have h2 := List.all_eq_true.mp h1 k (List.mem_range.mpr (List.getElem?_eq_some_iff.mp hk).1)
    rw [hk] at h2
    exact of_decide_eq_true h2
  · have h2 := List.all_eq_true.mp h1 k (List.mem_range.mpr (List.getElem?_eq_some_iff.mp hk).1)
    rw [hk] at h2
    exact of_decide_eq_true h2
theorem sx_i8 {n : Int} (h : (decide (-128 ≤ n) && decide (n ≤ 127)) = true) : (Int8.ofInt n).toInt32 = Int32.ofInt n := by
  rw [Bool.and_eq_true] at h
  have a := of_decide_eq_true h.1
  have b := of_decide_eq_true h.2
  rw [← Int32.ofInt_int8ToInt, Int8.toInt_ofInt_of_le (by omega) (by omega)]
theorem sx_i16 {n : Int} (h : (decide (-32768 ≤ n) && decide (n ≤ 32767)) = true) : (Int16.ofInt n).toInt32 = Int32.ofInt n := by
  rw [Bool.and_eq_true] at h
  have a := of_decide_eq_true h.1
  have b := of_decide_eq_true h.2
  rw [← Int32.ofInt_int16ToInt, Int16.toInt_ofInt_of_le (by omega) (by omega)]
theorem sx_div {x y : Int} (hx : sx_in x) (hy : sx_in y) : Int32.ofInt (x.tdiv y) = Int32.ofInt x / Int32.ofInt y := by
  apply Int32.toInt_inj.mp
  rw [Int32.toInt_div, sx_toInt hx, sx_toInt hy, Int32.toInt_ofInt]
theorem sx_fz_ok {n : Nat} {k : Nat → Prop} (h : sx_fz n k) : k n := by
  cases n
  · exact h
  · exact h
theorem sx_ld_ok {wr : Bool} {i j : Nat} {b : Bool} {s : sx_S} {k : Int → Prop} (h : sx_ld wr i (cond b (cx_rng i j) (cx_arg i)) (cond b (s.1 i j) (s.2.1 i j)) s k) : k (cond b (s.1 i j) (s.2.1 i j)) := by
  unfold sx_ld at h
  by_cases hq : (wr && Nat.blt i 125) = true
  · rw [hq] at h
    dsimp only [cond] at h
    rw [Bool.and_eq_true] at hq
    have hi : i < 125 := Nat.ble_eq.mp hq.2
    cases b
    · have h1 : (cx_arg i).1 ≤ s.2.1 i j ∧ s.2.1 i j ≤ (cx_arg i).2 := h.1 1 i j hi
      exact h.2 _ rfl h1.1 h1.2
    · have h1 : (cx_rng i j).1 ≤ s.1 i j ∧ s.1 i j ≤ (cx_rng i j).2 := h.1 0 i j hi
      exact h.2 _ rfl h1.1 h1.2
  · rw [Bool.not_eq_true] at hq
    rw [hq] at h
    exact h
theorem sx_a_get {ci k pc i cj : Nat} {ls : List (Nat × Value)} {r : List Value} {hp : List va_E} {fs : List Value} {v : Value} (hi : hp[i]? = some (.inr (cj, fs))) (hq : Nat.beq cj ci = true) (hv : fs[k]? = some v) : mx_a_get ci k pc ls (.ref i :: r) hp = some (pc, ls, v :: r, hp, 0, 0) := by
  unfold mx_a_get
  dsimp only
  rw [hi]
  dsimp only
  rw [hq, hv]
  rfl
theorem sx_a_put {ci k pc i cj : Nat} {ls : List (Nat × Value)} {r : List Value} {hp : List va_E} {fs : List Value} {v : Value} (hi : hp[i]? = some (.inr (cj, fs))) (hq : Nat.beq cj ci = true) (hl : Nat.blt k fs.length = true) (hv : mx_fit (mx_ty ci k) v = true) : mx_a_put ci k pc ls (v :: .ref i :: r) hp = some (pc, ls, r, hp.set i (.inr (cj, fs.set k v)), 0, 0) := by
  unfold mx_a_put
  dsimp only
  rw [hi]
  dsimp only
  rw [hq, hl, hv]
  rfl
theorem sx_i2c_of (x : Int) : Int32.ofInt (x % 65536) = ((Int32.ofInt x).toUInt32 % 65536).toInt32 := by
  have h1 : (Int32.ofInt x).toUInt32.toNat = (x % 4294967296).toNat := by
    show (BitVec.ofInt 32 x).toNat = _
    rw [BitVec.toNat_ofInt]
    rfl
  have h2 : ((Int32.ofInt x).toUInt32 % 65536) = UInt32.ofNat (x % 65536).toNat := by
    apply UInt32.toNat_inj.mp
    rw [UInt32.toNat_mod, h1, UInt32.toNat_ofNat_of_lt' (by show (x % 65536).toNat < 4294967296; omega)]
    show (x % 4294967296).toNat % 65536 = _
    omega
  rw [h2]
  show _ = Int32.ofNat (x % 65536).toNat
  rw [← Int32.ofInt_eq_ofNat, Int.toNat_of_nonneg (by omega)]
theorem sx_i2b_of (x : Int) : Int32.ofInt ((x + 128) % 256 - 128) = (Int32.ofInt x).toInt8.toInt32 := by
  rw [Int32.toInt8_ofInt, ← Int32.ofInt_int8ToInt, Int8.toInt_ofInt]
  congr 1
  show _ = Int.bmod x 256
  rw [Int.bmod_def]
  show _ = if x % 256 < (256 + 1) / 2 then x % 256 else x % 256 - 256
  split <;> omega
theorem sx_g_and (x y : Int) : (0 : Int) ≤ y → y ≤ 2147483647 → 0 ≤ sx_b (fun x y => x &&& y) x y ∧ sx_b (fun x y => x &&& y) x y ≤ y := by
  intro hy hy2
  show 0 ≤ ((Int32.ofInt x).toBitVec &&& (Int32.ofInt y).toBitVec).toInt ∧ ((Int32.ofInt x).toBitVec &&& (Int32.ofInt y).toBitVec).toInt ≤ y
  have e : (Int32.ofInt y).toBitVec.toInt = y := sx_toInt ⟨by omega, hy2⟩
  have hb : (Int32.ofInt y).toBitVec.msb = false := by
    rw [BitVec.msb_eq_toInt, e]
    exact decide_eq_false (by omega)
  have hm : ((Int32.ofInt x).toBitVec &&& (Int32.ofInt y).toBitVec).msb = false := by
    rw [BitVec.msb_and, hb, Bool.and_false]
  have h1 := BitVec.toInt_eq_toNat_of_msb hb
  have h2 := BitVec.toInt_eq_toNat_of_msb hm
  rw [BitVec.toNat_and] at h2
  have h3 := Nat.and_le_right (n := (Int32.ofInt x).toBitVec.toNat) (m := (Int32.ofInt y).toBitVec.toNat)
  omega
theorem sx_g_or (x y : Int) : (0 : Int) ≤ x → x ≤ 1 → 0 ≤ y → y ≤ 1 → 0 ≤ sx_b (fun x y => x ||| y) x y ∧ sx_b (fun x y => x ||| y) x y ≤ 1 := by
  intro h1 h2 h3 h4
  rcases (show x = 0 ∨ x = 1 by omega) with rfl | rfl <;> rcases (show y = 0 ∨ y = 1 by omega) with rfl | rfl <;> decide
section SXO
variable {wr : Bool} {sL : Nat} {sx : Nat → Int32} {pc : Nat} {ls : sx_L} {st : List sx_V} {s : sx_S} {K : sx_K}
/-- what a step of the evaluator comes to -/
def sx_to (s : sx_S) (K : sx_K) (r : Option mx_Cf) : Prop := ∃ (pc' : Nat) (ls' : sx_L) (st' : List sx_V) (t : sx_S), r = some (pc', ls'.map sx_ed, st'.map sx_e, sx_hp t, t.2.2.2 - s.2.2.2, 8 * (t.2.2.2 - s.2.2.2)) ∧ (s.2.2.2 ≤ t.2.2.2 ∧ (t.2.2.2 = s.2.2.2 ∨ t.2.2.2 ≤ 500000)) ∧ K pc' ls' st' t
theorem sx_to0 {pc' : Nat} {ls' : sx_L} {st' : List sx_V} {r : Option mx_Cf} (h : K pc' ls' st' s) (hr : r = some (pc', ls'.map sx_ed, st'.map sx_e, sx_hp s, 0, 0)) : sx_to s K r := ⟨pc', ls', st', s, by rw [hr, Nat.sub_self], ⟨Nat.le_refl _, Or.inl rfl⟩, h⟩
theorem sx_to1 {pc' : Nat} {ls' : sx_L} {st' : List sx_V} {t : sx_S} {r : Option mx_Cf} (hw : t.2.2.2 = s.2.2.2) (h : K pc' ls' st' t) (hr : r = some (pc', ls'.map sx_ed, st'.map sx_e, sx_hp t, 0, 0)) : sx_to s K r := ⟨pc', ls', st', t, by rw [hr, hw, Nat.sub_self], ⟨Nat.le_of_eq hw.symm, Or.inl hw⟩, h⟩
theorem sx_o_li {i pc1 : Nat} (h : sx_li i ls (fun v => K pc1 ls (v :: st) s)) : sx_to s K (mx_a_li pc1 i (ls.map sx_ed) (st.map sx_e) (sx_hp s)) := by
  unfold sx_li at h
  split at h
  · rename_i x hx
    refine sx_to0 h ?_
    unfold mx_a_li
    rw [sx_at_ed, hx]
    rfl
  · exact h.elim
theorem sx_o_la {i pc1 : Nat} (h : sx_la i ls (fun v => K pc1 ls (v :: st) s)) : sx_to s K (mx_a_la pc1 i (ls.map sx_ed) (st.map sx_e) (sx_hp s)) := by
  unfold sx_la at h
  split at h
  · rename_i x hx
    refine sx_to0 h ?_
    unfold mx_a_la
    rw [sx_at_ed, hx]
    cases x <;> rfl
  · exact h.elim
theorem sx_o_si {i pc1 : Nat} (h : sx_si st (fun v r => K pc1 (sx_put ls i v) r s)) : sx_to s K (mx_a_si pc1 i (ls.map sx_ed) (st.map sx_e) (sx_hp s)) := by
  unfold sx_si at h
  split at h
  · rename_i x r
    refine sx_to0 h ?_
    rw [← sx_put_ed]
    rfl
  · exact h.elim
theorem sx_o_sa {i pc1 : Nat} (h : sx_sa st (fun v r => K pc1 (sx_put ls i v) r s)) : sx_to s K (mx_a_sa pc1 i (ls.map sx_ed) (st.map sx_e) (sx_hp s)) := by
  unfold sx_sa at h
  split at h
  · rename_i x r
    refine sx_to0 h ?_
    rw [← sx_put_ed]
    cases x <;> rfl
  · exact h.elim
theorem sx_o_1 {f : Int → Int} {g : Int32 → Int32} {pc1 : Nat} (hfg : ∀ x, Int32.ofInt (f x) = g (Int32.ofInt x)) (h : sx_1 f st (fun r => K pc1 ls r s)) : sx_to s K (mx_a_1 g pc1 (ls.map sx_ed) (st.map sx_e) (sx_hp s)) := by
  unfold sx_1 at h
  split at h
  · rename_i x r
    refine sx_to0 h ?_
    show some (_, _, Value.int (g (Int32.ofInt x)) :: _, _) = some (_, _, Value.int (Int32.ofInt (f x)) :: _, _)
    rw [hfg]
  · exact h.elim
theorem sx_o_2 {f : Int → Int → Int} {g : Int32 → Int32 → Int32} {pc1 : Nat} (hfg : ∀ x y, Int32.ofInt (f x y) = g (Int32.ofInt x) (Int32.ofInt y)) (h : sx_2 f st (fun r => K pc1 ls r s)) : sx_to s K (mx_a_2 g pc1 (ls.map sx_ed) (st.map sx_e) (sx_hp s)) := by
  unfold sx_2 at h
  split at h
  · rename_i y x r
    refine sx_to0 h ?_
    show some (_, _, Value.int (g (Int32.ofInt x) (Int32.ofInt y)) :: _, _) = some (_, _, Value.int (Int32.ofInt (f x y)) :: _, _)
    rw [hfg]
  · exact h.elim
theorem sx_o_2b {f : Int32 → Int32 → Int32} {g : Int → Int → Int → Prop} {pc1 : Nat} (hg : ∀ x y, g x y (sx_b f x y)) (h : sx_2b f g st (fun r => K pc1 ls r s)) : sx_to s K (mx_a_2 f pc1 (ls.map sx_ed) (st.map sx_e) (sx_hp s)) := by
  unfold sx_2b at h
  split at h
  · rename_i y x r
    have h1 := Int32.le_toInt (f (Int32.ofInt x) (Int32.ofInt y))
    have h2 := Int32.toInt_lt (f (Int32.ofInt x) (Int32.ofInt y))
    refine sx_to0 (h.2 _ rfl h1 (by unfold sx_b; omega) (hg x y)) ?_
    show some (_, _, Value.int (f (Int32.ofInt x) (Int32.ofInt y)) :: _, _) = some (_, _, Value.int (Int32.ofInt (sx_b f x y)) :: _, _)
    unfold sx_b
    rw [Int32.ofInt_toInt]
  · exact h.elim
theorem sx_o_2d {f : Int → Int → Int} {g : Int32 → Int32 → Int32} {pc1 : Nat} (hfg : ∀ x y, sx_in x → sx_in y → Int32.ofInt (f x y) = g (Int32.ofInt x) (Int32.ofInt y)) (h : sx_2d wr f st (fun r => K pc1 ls r s)) : sx_to s K (mx_a_2n g pc1 (ls.map sx_ed) (st.map sx_e) (sx_hp s)) := by
  unfold sx_2d at h
  split at h
  · rename_i y x r
    cases wr with
    | false =>
      obtain ⟨⟨⟨hx, hy⟩, h0⟩, hk⟩ := h
      refine sx_to0 hk ?_
      show cond (decide (Int32.ofInt y = 0)) none (some (_, _, Value.int (g (Int32.ofInt x) (Int32.ofInt y)) :: _, _)) = some (_, _, Value.int (Int32.ofInt (f x y)) :: _, _)
      rw [decide_eq_false (by rw [sx_z0, sx_inj hy sx_in0]; exact h0), hfg x y hx hy]
      rfl
    | true =>
      obtain ⟨⟨⟨hx, hy⟩, h0⟩, hk⟩ := h
      refine sx_to0 (hk _ rfl (sx_n_in _).1 (sx_n_in _).2) ?_
      show cond (decide (Int32.ofInt y = 0)) none (some (_, _, Value.int (g (Int32.ofInt x) (Int32.ofInt y)) :: _, _)) = some (_, _, Value.int (Int32.ofInt (sx_n (f x y))) :: _, _)
      rw [decide_eq_false (by rw [sx_z0, sx_inj hy sx_in0]; exact h0), sx_n_of, hfg x y hx hy]
      rfl
  · exact h.elim
theorem sx_o_b1 {P Q : Int → Prop} {t : Int32 → Bool} {tgt pc1 : Nat} (ht : ∀ x, sx_in x → (t (Int32.ofInt x) = true → P x) ∧ (t (Int32.ofInt x) = false → Q x)) (h : sx_b1 P Q st (fun r => K tgt ls r s) (fun r => K pc1 ls r s)) : sx_to s K (mx_a_b1 t tgt pc1 (ls.map sx_ed) (st.map sx_e) (sx_hp s)) := by
  unfold sx_b1 at h
  split at h
  · rename_i x r
    obtain ⟨hx, h1, h2⟩ := h
    obtain ⟨a1, a2⟩ := ht x hx
    cases hq : t (Int32.ofInt x) with
    | true =>
      refine sx_to0 (h1 (a1 hq)) ?_
      show some (cond (t (Int32.ofInt x)) tgt pc1, _) = _
      rw [hq]; rfl
    | false =>
      refine sx_to0 (h2 (a2 hq)) ?_
      show some (cond (t (Int32.ofInt x)) tgt pc1, _) = _
      rw [hq]; rfl
  · exact h.elim
theorem sx_o_b2 {P Q : Int → Int → Prop} {t : Int32 → Int32 → Bool} {tgt pc1 : Nat} (ht : ∀ x y, sx_in x → sx_in y → (t (Int32.ofInt x) (Int32.ofInt y) = true → P x y) ∧ (t (Int32.ofInt x) (Int32.ofInt y) = false → Q x y)) (h : sx_b2 P Q st (fun r => K tgt ls r s) (fun r => K pc1 ls r s)) : sx_to s K (mx_a_b2 t tgt pc1 (ls.map sx_ed) (st.map sx_e) (sx_hp s)) := by
  unfold sx_b2 at h
  split at h
  · rename_i y x r
    obtain ⟨⟨hx, hy⟩, h1, h2⟩ := h
    obtain ⟨a1, a2⟩ := ht x y hx hy
    cases hq : t (Int32.ofInt x) (Int32.ofInt y) with
    | true =>
      refine sx_to0 (h1 (a1 hq)) ?_
      show some (cond (t (Int32.ofInt x) (Int32.ofInt y)) tgt pc1, _) = _
      rw [hq]; rfl
    | false =>
      refine sx_to0 (h2 (a2 hq)) ?_
      show some (cond (t (Int32.ofInt x) (Int32.ofInt y)) tgt pc1, _) = _
      rw [hq]; rfl
  · exact h.elim
theorem sx_o_get {ci k pc1 : Nat} (h : sx_get wr ci k st s (fun r => K pc1 ls r s)) : sx_to s K (cond (Nat.beq ci 13) (mx_a_sget k pc1 (ls.map sx_ed) (st.map sx_e) (sx_hp s)) (mx_a_get ci k pc1 (ls.map sx_ed) (st.map sx_e) (sx_hp s))) := by
  unfold sx_get at h
  split at h
  · rename_i i r
    cases hc : Nat.beq ci 13 with
    | true =>
      rw [hc] at h
      dsimp only [cond] at h ⊢
      cases hS : mx_isS i with
      | false => rw [hS] at h; exact h.elim
      | true =>
        rw [hS] at h
        cases hk : Nat.beq k 0 with
        | true =>
          rw [hk] at h
          refine sx_to0 h ?_
          show cond (mx_isS i) (cond (Nat.beq k 0) (some (_, _, Value.ref (i + 1) :: _, _)) _) none = _
          rw [hS, hk]; rfl
        | false =>
          rw [hk] at h
          refine sx_to0 h ?_
          show cond (mx_isS i) (cond (Nat.beq k 0) _ (some (_, _, Value.int 0 :: _, _))) none = _
          rw [hS, hk]; rfl
    | false =>
      rw [hc] at h
      dsimp only [cond] at h ⊢
      split at h
      · rename_i o ho
        have hat := (sx_ob_at (s := s) ho).1
        cases hq : Nat.beq o.1 ci with
        | false => rw [hq] at h; exact h.elim
        | true =>
          rw [hq] at h
          dsimp only at h
          have fin : ∀ v : sx_V, (o.2.mapIdx (fun k kd => sx_fv (s.1 i) k kd))[k]? = some (sx_e v) → K pc1 ls (v :: r) s → sx_to s K (mx_a_get ci k pc1 (ls.map sx_ed) ((Sum.inr (Sum.inl i) :: r).map sx_e) (sx_hp s)) := by
            intro v hv hk
            refine sx_to0 hk ?_
            exact sx_a_get (sx_hp_at hat) hq hv
          split at h
          · rename_i hk
            exact fin (.inl (s.1 i k)) (by rw [List.getElem?_mapIdx, hk]; rfl) (sx_ld_ok (b := true) h)
          · rename_i hk
            exact fin (.inl (s.1 i k)) (by rw [List.getElem?_mapIdx, hk]; rfl) (sx_ld_ok (b := true) h)
          · rename_i q hk
            exact fin _ (by rw [List.getElem?_mapIdx, hk]; rfl) h
          · exact h.elim
      · exact h.elim
  · exact h.elim
theorem sx_o_ptf {ci k pc1 : Nat} (h : sx_ptf ci k st s (fun r t => K pc1 ls r t)) : sx_to s K (mx_a_put ci k pc1 (ls.map sx_ed) (st.map sx_e) (sx_hp s)) := by
  unfold sx_ptf at h
  split at h
  · rename_i v i r
    split at h
    · rename_i o ho
      obtain ⟨hat, hN⟩ := sx_ob_at (s := s) ho
      cases hq : Nat.beq o.1 ci with
      | false => rw [hq] at h; exact h.elim
      | true =>
        rw [hq] at h
        dsimp only [cond] at h
        have eci : o.1 = ci := Nat.eq_of_beq_eq_true hq
        have fin : ∀ kd, o.2[k]? = some kd → kd < 2 → mx_fit (mx_ty ci k) (.int (Int32.ofInt v)) = true → K pc1 ls r (sx_uf s.1 i k v, s.2) → sx_to s K (mx_a_put ci k pc1 (ls.map sx_ed) ((Sum.inl v :: Sum.inr (Sum.inl i) :: r).map sx_e) (sx_hp s)) := by
          intro kd hk hkd hfit hK
          refine sx_to1 (t := (sx_uf s.1 i k v, s.2)) rfl hK ?_
          have hlt : Nat.blt k (o.2.mapIdx (fun k kd => sx_fv (s.1 i) k kd)).length = true := by
            rw [List.length_mapIdx]
            exact Nat.ble_eq.mpr (List.getElem?_eq_some_iff.mp hk).1
          refine (sx_a_put (r := r.map sx_e) (sx_hp_at hat) hq hlt hfit).trans ?_
          rw [sx_hp_ext (s := s) (t := (sx_uf s.1 i k v, s.2)) rfl (fun x hx => ?_) hN (fun q hq => ⟨sx_fv_ne hq, rfl⟩) rfl]
          cases hat.symm.trans hx
          unfold sx_cell
          rw [sx_fs_set s.1 i k v o.2 hk hkd]
        split at h
        · rename_i hk
          refine fin 0 hk (by decide) ?_ h
          rw [← eci, (sx_ob_ty ho).1 hk]; rfl
        · rename_i hk
          refine fin 1 hk (by decide) ?_ h.2
          rw [← eci, (sx_ob_ty ho).2 hk]
          rcases h.1 with rfl | rfl <;> rfl
        · exact h.elim
    · exact h.elim
  · exact h.elim
end SXO
end
section
/-! ===== arrays, the rest of the steps ===== -/
theorem sx_a_ald {sL : Nat} {sx : Nat → Int32} {pc i n : Nat} {ls : List (Nat × Value)} {r : List Value} {hp : List va_E} {f : Nat → Int32} {j : Int32} (h0 : Nat.beq i 1000000 = false) (hi : hp[i]? = some (.inl (0, n, .inl f))) (hj : mx_in j n = true) : mx_a_ald sL sx pc ls (.int j :: .ref i :: r) hp = some (pc, ls, .int (f j.toNatClampNeg) :: r, hp, 0, 0) := by
  unfold mx_a_ald
  dsimp only
  rw [h0, hi]
  show cond (mx_in j n) (some (pc, ls, Value.int (f j.toNatClampNeg) :: r, hp, 0, 0)) none = _
  rw [hj]
  rfl
theorem sx_a_ast {pc i n : Nat} {ls : List (Nat × Value)} {r : List Value} {hp : List va_E} {f : Nat → Int32} {j x : Int32} (hi : hp[i]? = some (.inl (0, n, .inl f))) (hj : mx_in j n = true) : mx_a_ast pc ls (.int x :: .int j :: .ref i :: r) hp = some (pc, ls, r, hp.set i (.inl (0, n, .inl (upd f j.toNatClampNeg x))), 0, 0) := by
  unfold mx_a_ast
  dsimp only
  rw [hi]
  show cond (mx_in j n) (some (pc, ls, r, hp.set i (.inl (0, n, .inl (upd f j.toNatClampNeg x))), 0, 0)) none = _
  rw [hj]
  rfl
theorem sx_a_zld {pc i n : Nat} {ls : List (Nat × Value)} {r : List Value} {hp : List va_E} {f : Nat → Int32} {j : Int32} (h0 : mx_isB i = false) (hi : hp[i]? = some (.inl (1, n, .inl f))) (hj : mx_in j n = true) : mx_a_zl2 pc ls (.int j :: .ref i :: r) hp = some (pc, ls, .int (f j.toNatClampNeg) :: r, hp, 0, 0) := by
  unfold mx_a_zl2 mx_a_zld
  dsimp only
  rw [h0, hi]
  show cond (mx_in j n) (some (pc, ls, Value.int (f j.toNatClampNeg) :: r, hp, 0, 0)) none = _
  rw [hj]
  rfl
theorem sx_a_zst {pc i n : Nat} {ls : List (Nat × Value)} {r : List Value} {hp : List va_E} {f : Nat → Int32} {j x : Int32} (hi : hp[i]? = some (.inl (1, n, .inl f))) (hj : mx_in j n = true) : mx_a_zst pc ls (.int x :: .int j :: .ref i :: r) hp = some (pc, ls, r, hp.set i (.inl (1, n, .inl (upd f j.toNatClampNeg (vp_nar .boolean x)))), 0, 0) := by
  unfold mx_a_zst
  dsimp only
  rw [hi]
  show cond (mx_in j n) (some (pc, ls, r, hp.set i (.inl (1, n, .inl (upd f j.toNatClampNeg (vp_nar .boolean x)))), 0, 0)) none = _
  rw [hj]
  rfl
theorem sx_a_len {sL : Nat} {sx : Nat → Int32} {pc i t : Nat} {ls : List (Nat × Value)} {r : List Value} {hp : List va_E} {a : vp_A} (hb : mx_isB i = false) (h0 : Nat.beq i 1000000 = false) (hi : hp[i]? = some (.inl (t, a))) (ht : Nat.blt t 3 = true) : mx_a_len2 sL sx pc ls (.ref i :: r) hp = some (pc, ls, .int (Int32.ofNat a.1) :: r, hp, 0, 0) := by
  unfold mx_a_len2 mx_a_len
  dsimp only
  rw [hb, h0, hi]
  dsimp only [cond]
  rw [ht]
theorem sx_upd (f : Nat → Int) (j : Nat) (v : Int) : upd (fun j => Int32.ofInt (f j)) j (Int32.ofInt v) = fun j' => Int32.ofInt (if j' = j then v else f j') := by
  funext j'
  unfold upd
  by_cases h : j' = j
  · simp [h]
  · simp [h]
theorem sx_small2 {i : Nat} (h : i < 600000) : Nat.beq i 1000000 = false := by
  rw [← Bool.not_eq_true]; exact fun q => by have := Nat.eq_of_beq_eq_true q; omega
theorem sx_ua_same (A : Nat → Nat → Int) (p j : Nat) (v : Int) : sx_ua A p j v p = fun j' => if j' = j then v else A p j' := by
  funext j'
  unfold sx_ua
  rw [Nat.beq_refl]
  rfl
theorem sx_ua_ne {A : Nat → Nat → Int} {p p' j : Nat} {v : Int} (h : p' ≠ p) : sx_ua A p j v p' = A p' := by
  funext j'
  unfold sx_ua
  have : Nat.beq p' p = false := by rw [← Bool.not_eq_true]; exact fun q => h (Nat.eq_of_beq_eq_true q)
  rw [this]
  rfl
section SXP
variable {wr : Bool} {sL : Nat} {sx : Nat → Int32} {pc : Nat} {ls : sx_L} {st : List sx_V} {s : sx_S} {K : sx_K}
theorem sx_o_ald {pc1 : Nat} (hsL : sL ≤ 3072) (hw : s.2.2.2 ≤ 500000) (h : sx_ald wr sL sx st s (fun r => K pc1 ls r s)) : sx_to s K (mx_a_ald sL sx pc1 (ls.map sx_ed) (st.map sx_e) (sx_hp s)) := by
  unfold sx_ald at h
  split at h
  · rename_i j i r
    cases hq : Nat.beq i 1000000 with
    | true =>
      rw [hq] at h
      obtain ⟨⟨h0, h1⟩, hk⟩ := h
      refine sx_to0 hk ?_
      have hj := sx_mxin h0 h1 (by omega)
      unfold mx_a_ald
      simp only [List.map_cons, sx_e]
      rw [hq]
      dsimp only [cond]
      rw [hj]
      dsimp only [cond]
      rw [sx_nat h0 (by omega), Int32.ofInt_toInt]
    | false =>
      rw [hq] at h
      dsimp only [cond] at h
      split at h
      · rename_i n ha
        obtain ⟨⟨h0, h1⟩, hk⟩ := h
        obtain ⟨hat, hN⟩ := sx_ar_at ha
        have hl := (sx_ar_len ha).1
        refine sx_to0 (sx_ld_ok (b := false) hk) ?_
        refine (sx_a_ald (r := r.map sx_e) hq (sx_hp_at hat) (sx_mxin h0 h1 hl)).trans ?_
        dsimp only at h1 hl
        rw [sx_nat h0 (by omega)]
        rfl
      · exact h.elim
  · rename_i j o r
    obtain ⟨⟨ho, h0, h1⟩, hk⟩ := h
    refine sx_to0 hk ?_
    refine (sx_a_ald (r := r.map sx_e) (sx_small2 (by omega)) (sx_hp_own ho) (sx_mxin (n := 8) h0 h1 (by decide))).trans ?_
    rw [sx_nat h0 (by omega)]
    rfl
  · exact h.elim
theorem sx_o_ast {pc1 : Nat} (h : sx_ast st s (fun r t => K pc1 ls r t)) : sx_to s K (mx_a_ast pc1 (ls.map sx_ed) (st.map sx_e) (sx_hp s)) := by
  unfold sx_ast at h
  split at h
  · rename_i v j i r
    split at h
    · rename_i n ha
      obtain ⟨⟨h0, h1⟩, hk⟩ := h
      obtain ⟨hat, hN⟩ := sx_ar_at ha
      have hl := (sx_ar_len ha).1
      dsimp only at h1 hl
      refine sx_to1 (t := (s.1, sx_ua s.2.1 i j.toNat v, s.2.2)) rfl hk ?_
      refine (sx_a_ast (r := r.map sx_e) (sx_hp_at hat) (sx_mxin h0 h1 hl)).trans ?_
      rw [sx_nat h0 (by omega), sx_upd]
      rw [sx_hp_ext (s := s) (t := (s.1, sx_ua s.2.1 i j.toNat v, s.2.2)) rfl (fun x hx => ?_) hN (fun q hq => ⟨rfl, sx_ua_ne hq⟩) rfl]
      cases hat.symm.trans hx
      show _ = Sum.inl (0, n, Sum.inl (fun j' => Int32.ofInt (sx_ua s.2.1 i j.toNat v i j')))
      rw [sx_ua_same]
    · exact h.elim
  · rename_i v j o r
    obtain ⟨⟨ho, h0, h1⟩, hk⟩ := h
    refine sx_to1 (t := (s.1, s.2.1, (fun o' => if o' = o then (fun j' => if j' = j.toNat then v else s.2.2.1 o j') else s.2.2.1 o'), s.2.2.2)) rfl hk ?_
    refine (sx_a_ast (r := r.map sx_e) (sx_hp_own ho) (sx_mxin (n := 8) h0 h1 (by decide))).trans ?_
    rw [sx_nat h0 (by omega), sx_upd, sx_hp_own_set ho]
  · exact h.elim
theorem sx_o_zld {pc1 : Nat} (h : sx_zld wr st s (fun r => K pc1 ls r s)) : sx_to s K (mx_a_zl2 pc1 (ls.map sx_ed) (st.map sx_e) (sx_hp s)) := by
  unfold sx_zld at h
  split at h
  · rename_i j i r
    cases hq : mx_isB i with
    | true =>
      rw [hq] at h
      rw [cond_true] at h
      obtain ⟨⟨h0, h1⟩, hk⟩ := sx_fz_ok h
      obtain ⟨j0, hj0, hi⟩ := mx_isB_ok hq
      refine sx_to0 (hk _ rfl (Int32.le_toInt _) (by have := Int32.toInt_lt ((mx_sby.getD ((i - 1000002) / 2) []).getD j.toNat 0); omega)) ?_
      have e1 : (i - 1000002) / 2 = j0 := by omega
      have hn : mx_sln.getD j0 0 ≤ 1000000 := by
        have : ∀ q, q < 6 → mx_sln.getD q 0 ≤ 1000000 := by decide
        exact this j0 hj0
      rw [e1] at h1
      have hj := sx_mxin h0 h1 hn
      unfold mx_a_zl2
      simp only [List.map_cons, sx_e]
      rw [hq, e1]
      dsimp only [cond]
      rw [hj]
      dsimp only [cond]
      rw [sx_nat h0 (by omega), Int32.ofInt_toInt]
    | false =>
      rw [hq] at h
      dsimp only [cond] at h
      split at h
      · rename_i n ha
        obtain ⟨⟨h0, h1⟩, hk⟩ := h
        obtain ⟨hat, hN⟩ := sx_ar_at ha
        have hl := (sx_ar_len ha).1
        dsimp only at h1 hl
        refine sx_to0 (sx_ld_ok (b := false) hk) ?_
        refine (sx_a_zld (r := r.map sx_e) hq (sx_hp_at hat) (sx_mxin h0 h1 hl)).trans ?_
        rw [sx_nat h0 (by omega)]
        rfl
      · exact h.elim
  · exact h.elim
theorem sx_o_zst {pc1 : Nat} (h : sx_zst st s (fun r t => K pc1 ls r t)) : sx_to s K (mx_a_zst pc1 (ls.map sx_ed) (st.map sx_e) (sx_hp s)) := by
  unfold sx_zst at h
  split at h
  · rename_i v j i r
    split at h
    · rename_i n ha
      obtain ⟨⟨hv, h0, h1⟩, hk⟩ := h
      obtain ⟨hat, hN⟩ := sx_ar_at ha
      have hl := (sx_ar_len ha).1
      dsimp only at h1 hl
      refine sx_to1 (t := (s.1, sx_ua s.2.1 i j.toNat v, s.2.2)) rfl hk ?_
      refine (sx_a_zst (r := r.map sx_e) (sx_hp_at hat) (sx_mxin h0 h1 hl)).trans ?_
      have e : vp_nar .boolean (Int32.ofInt v) = Int32.ofInt v := by rcases hv with rfl | rfl <;> rfl
      rw [sx_nat h0 (by omega), e, sx_upd]
      rw [sx_hp_ext (s := s) (t := (s.1, sx_ua s.2.1 i j.toNat v, s.2.2)) rfl (fun x hx => ?_) hN (fun q hq => ⟨rfl, sx_ua_ne hq⟩) rfl]
      cases hat.symm.trans hx
      show _ = Sum.inl (1, n, Sum.inl (fun j' => Int32.ofInt (sx_ua s.2.1 i j.toNat v i j')))
      rw [sx_ua_same]
    · exact h.elim
  · exact h.elim
theorem sx_o_len {pc1 : Nat} (h : sx_len sL st (fun r => K pc1 ls r s)) : sx_to s K (mx_a_len2 sL sx pc1 (ls.map sx_ed) (st.map sx_e) (sx_hp s)) := by
  unfold sx_len at h
  split at h
  · rename_i i r
    cases hq : mx_isB i with
    | true =>
      rw [hq] at h
      rw [cond_true] at h
      have h := sx_fz_ok h
      refine sx_to0 h ?_
      unfold mx_a_len2
      simp only [List.map_cons, sx_e]
      rw [hq]
      dsimp only [cond]
      rw [Int32.ofInt_eq_ofNat]
    | false =>
      rw [hq] at h
      dsimp only [cond] at h
      cases hq2 : Nat.beq i 1000000 with
      | true =>
        rw [hq2] at h
        refine sx_to0 h ?_
        unfold mx_a_len2 mx_a_len
        simp only [List.map_cons, sx_e]
        rw [hq, hq2]
        dsimp only [cond]
        rw [Int32.ofInt_eq_ofNat]
      | false =>
        rw [hq2] at h
        dsimp only [cond] at h
        split at h
        · rename_i t n ha
          obtain ⟨hat, hN⟩ := sx_ar_at ha
          refine sx_to0 h ?_
          refine (sx_a_len (r := r.map sx_e) hq hq2 (sx_hp_at hat) (Nat.ble_eq.mpr (sx_ar_len ha).2)).trans ?_
          show some (_, _, Value.int (Int32.ofNat n) :: _, _) = some (_, _, Value.int (Int32.ofInt (n : Int)) :: _, _)
          rw [Int32.ofInt_eq_ofNat]
        · exact h.elim
  · exact h.elim
theorem sx_o_new {pc1 : Nat} (h : sx_new st s (fun r t => K pc1 ls r t)) : sx_to s K (mx_a_na 0 pc1 (ls.map sx_ed) (st.map sx_e) (sx_hp s)) := by
  unfold sx_new at h
  split at h
  · rename_i n r
    obtain ⟨⟨rfl, hw⟩, hk⟩ := h
    refine ⟨_, _, _, (s.1, s.2.1, (fun o j => cond (Nat.beq o s.2.2.2) 0 (s.2.2.1 o j)), s.2.2.2 + 1), ?_, ⟨Nat.le_succ _, Or.inr hw⟩, hk⟩
    unfold mx_a_na
    simp only [List.map_cons, sx_e]
    have h1 : Nat.blt (sx_hp s).length 600000 = true := by
      rw [sx_hp_len]
      exact Nat.ble_eq.mpr (by omega)
    have h2 : (decide (¬ Int32.ofInt 8 < 0) && Nat.ble (Int32.ofInt 8).toNatClampNeg 1000000 && Nat.blt (sx_hp s).length 600000) = true := by
      rw [h1]; rfl
    rw [h2]
    dsimp only [cond]
    have h3 : (Int32.ofInt 8).toNatClampNeg = 8 := rfl
    rw [h3, sx_hp_push, sx_hp_len]
    simp [sx_e]
    rfl
  · exact h.elim
theorem sx_o_sw {x lo : Int} {r : List sx_V} : ∀ (l : List Int) (i : Nat) (k : Nat → Prop), sx_sw x lo pc k l i → ∀ j, x = lo + ((i + j : Nat) : Int) → ∀ off, l[j]? = some off → 0 ≤ (pc : Int) + off ∧ k ((pc : Int) + off).toNat
  | [], _, _, _, _, _, _, h => by cases h
  | a :: l, i, k, h, 0, hx, off, ho => by
    cases ho
    exact h.1 (by rw [hx]; rfl)
  | a :: l, i, k, h, j + 1, hx, off, ho => sx_o_sw (r := r) l (i + 1) k h.2 j (by rw [hx]; congr 2; omega) off ho
/-- the evaluator takes it -/
theorem sx_st_ok {ins : Instr} {len a b w : Nat} (hsL : sL ≤ 3072) (hw : s.2.2.2 ≤ 500000) (h : sx_st wr sL sx ins a b pc ls st s K) : sx_to s K (mx_step sL sx (ins, len, a, b, w) pc (ls.map sx_ed) (st.map sx_e) (sx_hp s)) := by
  unfold sx_st at h
  unfold mx_step
  dsimp only at h ⊢
  split at h
  · exact sx_to0 h rfl
  · rename_i n
    cases hc : (decide (-128 ≤ n) && decide (n ≤ 127)) with
    | false => rw [hc] at h; exact h.elim
    | true =>
      rw [hc] at h
      refine sx_to0 h ?_
      show some (pc + 2, _, Value.int (Int8.ofInt n).toInt32 :: _, _) = _
      rw [sx_i8 hc]; rfl
  · rename_i n
    cases hc : (decide (-32768 ≤ n) && decide (n ≤ 32767)) with
    | false => rw [hc] at h; exact h.elim
    | true =>
      rw [hc] at h
      refine sx_to0 h ?_
      show some (pc + 3, _, Value.int (Int16.ofInt n).toInt32 :: _, _) = _
      rw [sx_i16 hc]; rfl
  · cases hc : Nat.beq b 1 with
    | true =>
      rw [hc] at h
      exact sx_to0 h rfl
    | false =>
      rw [hc] at h
      refine sx_to0 h ?_
      dsimp only [cond]
      rw [← Int32.ofInt_eq_ofNat]; rfl
  · exact sx_o_li h
  · exact sx_o_li h
  · exact sx_o_la h
  · exact sx_o_la h
  · exact sx_o_si h
  · exact sx_o_si h
  · exact sx_o_sa h
  · exact sx_o_sa h
  · rename_i i n
    split at h
    · rename_i x hx
      refine sx_to0 h ?_
      show mx_a_inc (pc + 3) i n _ _ _ = _
      unfold mx_a_inc
      rw [sx_at_ed, hx]
      show some (pc + 3, mx_put _ i (Value.int (Int32.ofInt x + Int32.ofInt n)), _) = _
      rw [← sx_put_ed, ← Int32.ofInt_add, ← sx_w_of wr]
      rfl
    · exact h.elim
  · exact sx_o_2 (fun x y => by rw [sx_w_of, Int32.ofInt_add]) h
  · exact sx_o_2 (fun x y => by rw [sx_w_of, Int32.ofInt_sub]) h
  · exact sx_o_2 (fun x y => by rw [sx_w_of, Int32.ofInt_mul]) h
  · exact sx_o_2b sx_g_and h
  · exact sx_o_2b sx_g_or h
  · exact sx_o_2b (fun _ _ => trivial) h
  · exact sx_o_2b (fun _ _ => trivial) h
  · exact sx_o_2b (fun _ _ => trivial) h
  · exact sx_o_2d (fun x y hx hy => sx_div hx hy) h
  · exact sx_o_2d (fun x y hx hy => by rw [Int32.ofInt_sub, Int32.ofInt_mul, sx_div hx hy]) h
  · exact sx_o_1 (fun x => sx_i2c_of x) h
  · exact sx_o_1 (fun x => sx_i2b_of x) h
  · exact sx_o_b1 (fun x hx => ⟨fun q => (sx_inj hx sx_in0).mp (of_decide_eq_true q), fun q z => of_decide_eq_false q ((sx_inj hx sx_in0).mpr z)⟩) h
  · exact sx_o_b1 (fun x hx => ⟨fun q z => of_decide_eq_true q ((sx_inj hx sx_in0).mpr z), fun q => (sx_inj hx sx_in0).mp (Decidable.not_not.mp (of_decide_eq_false q))⟩) h
  · exact sx_o_b1 (fun x hx => ⟨fun q => (sx_lt hx sx_in0).mp (of_decide_eq_true q), fun q => Int.not_lt.mp (fun z => of_decide_eq_false q ((sx_lt hx sx_in0).mpr z))⟩) h
  · exact sx_o_b1 (fun x hx => ⟨fun q => (sx_le sx_in0 hx).mp (of_decide_eq_true q), fun q => Int.not_le.mp (fun z => of_decide_eq_false q ((sx_le sx_in0 hx).mpr z))⟩) h
  · exact sx_o_b1 (fun x hx => ⟨fun q => (sx_lt sx_in0 hx).mp (of_decide_eq_true q), fun q => Int.not_lt.mp (fun z => of_decide_eq_false q ((sx_lt sx_in0 hx).mpr z))⟩) h
  · exact sx_o_b1 (fun x hx => ⟨fun q => (sx_le hx sx_in0).mp (of_decide_eq_true q), fun q => Int.not_le.mp (fun z => of_decide_eq_false q ((sx_le hx sx_in0).mpr z))⟩) h
  · exact sx_o_b2 (fun x y hx hy => ⟨fun q => (sx_inj hx hy).mp (of_decide_eq_true q), fun q z => of_decide_eq_false q ((sx_inj hx hy).mpr z)⟩) h
  · exact sx_o_b2 (fun x y hx hy => ⟨fun q z => of_decide_eq_true q ((sx_inj hx hy).mpr z), fun q => (sx_inj hx hy).mp (Decidable.not_not.mp (of_decide_eq_false q))⟩) h
  · exact sx_o_b2 (fun x y hx hy => ⟨fun q => (sx_lt hx hy).mp (of_decide_eq_true q), fun q => Int.not_lt.mp (fun z => of_decide_eq_false q ((sx_lt hx hy).mpr z))⟩) h
  · exact sx_o_b2 (fun x y hx hy => ⟨fun q => (sx_le hy hx).mp (of_decide_eq_true q), fun q => Int.not_le.mp (fun z => of_decide_eq_false q ((sx_le hy hx).mpr z))⟩) h
  · exact sx_o_b2 (fun x y hx hy => ⟨fun q => (sx_lt hy hx).mp (of_decide_eq_true q), fun q => Int.not_lt.mp (fun z => of_decide_eq_false q ((sx_lt hy hx).mpr z))⟩) h
  · exact sx_o_b2 (fun x y hx hy => ⟨fun q => (sx_le hx hy).mp (of_decide_eq_true q), fun q => Int.not_le.mp (fun z => of_decide_eq_false q ((sx_le hx hy).mpr z))⟩) h
  · exact sx_to0 h rfl
  · rename_i dflt lo hi offs
    split at h
    · rename_i x r
      obtain ⟨hx, h1, hsz, h2⟩ := h
      unfold mx_a_ts
      simp only [List.map_cons, sx_e]
      rw [sx_toInt hx]
      by_cases ho : x < lo ∨ hi < x
      · obtain ⟨a0, a1⟩ := h1 ho
        refine sx_to0 a1 ?_
        rw [decide_eq_true ho, decide_eq_true a0]
        rfl
      · have hlt : (x - lo).toNat < offs.size := by omega
        have hg : offs.toList[(x - lo).toNat]? = some (offs[(x - lo).toNat]) := by simp [hlt]
        obtain ⟨a0, a1⟩ := sx_o_sw (r := r) _ _ _ h2 (x - lo).toNat (by omega) _ hg
        refine sx_to0 a1 ?_
        rw [decide_eq_false ho]
        dsimp only [cond]
        rw [show offs[(x - lo).toNat]? = some (offs[(x - lo).toNat]) by simp [hlt]]
        dsimp only
        rw [decide_eq_true a0]
    · exact h.elim
  · exact sx_to0 h rfl
  · exact sx_o_get h
  · exact sx_o_ptf h
  · exact sx_o_ald hsL hw h
  · exact sx_o_ast h
  · exact sx_o_zld h
  · exact sx_o_zst h
  · exact sx_o_len h
  · exact sx_o_new h
  · unfold sx_d1 at h
    split at h
    · refine sx_to0 h ?_
      unfold mx_a_dup
      simp only [List.map_cons]
      rw [sx_e_cat]; rfl
    · exact h.elim
  · unfold sx_pop at h
    split at h
    · refine sx_to0 h ?_
      unfold mx_a_pop
      simp only [List.map_cons]
      rw [sx_e_cat]; rfl
    · exact h.elim
  · unfold sx_dx1 at h
    split at h
    · refine sx_to0 h ?_
      unfold mx_a_dx1
      simp only [List.map_cons]
      rw [sx_e_cat, sx_e_cat]; rfl
    · exact h.elim
  · unfold sx_dx2 at h
    split at h
    · refine sx_to0 h ?_
      unfold mx_a_dx2
      simp only [List.map_cons]
      rw [sx_e_cat, sx_e_cat, sx_e_cat]; rfl
    · exact h.elim
  · unfold sx_d2 at h
    split at h
    · refine sx_to0 h ?_
      unfold mx_a_d2
      simp only [List.map_cons]
      rw [sx_e_cat, sx_e_cat]; rfl
    · exact h.elim
  · exact h.elim
end SXP
end
section
/-! ===== a run does not hang on locals that it need not have ===== -/
def mx_c1 (ls : List (Nat × Value)) : Prop := ∀ q ∈ ls, q.2.category = 1
def mx_sub (ls ls' : List (Nat × Value)) : Prop := mx_c1 ls ∧ mx_c1 ls' ∧ ∀ i v, mx_at ls i = some v → mx_at ls' i = some v
theorem mx_at_keep {ls : List (Nat × Value)} (h : mx_c1 ls) (i k : Nat) : mx_at (ls.filter (mx_keep i)) k = if k = i then none else mx_at ls k := by
  induction ls with
  | nil => simp [mx_at]
  | cons q l ih =>
    have hl : mx_c1 l := fun x hx => h x (List.mem_cons_of_mem _ hx)
    have hq : mx_keep i q = !(q.1 == i) := by
      unfold mx_keep
      have : (q.2.category == 2) = false := by rw [h q List.mem_cons_self]; rfl
      simp [this]
    rw [List.filter_cons, hq]
    by_cases e : q.1 = i
    · simp only [e, beq_self_eq_true, Bool.not_true, Bool.false_eq_true, if_false]
      rw [ih hl]
      by_cases ek : k = i
      · simp [ek]
      · have : Nat.beq q.1 k = false := by rw [← Bool.not_eq_true]; exact fun z => ek (by rw [← e]; exact (Nat.eq_of_beq_eq_true z).symm)
        rw [if_neg ek, if_neg ek]
        show _ = cond (Nat.beq q.1 k) _ _
        rw [this]; rfl
    · have e2 : (q.1 == i) = false := by simp [e]
      rw [e2]
      simp only [Bool.not_false, if_true]
      show cond (Nat.beq q.1 k) (some q.2) (mx_at (l.filter (mx_keep i)) k) = _
      rw [ih hl]
      by_cases ek : k = i
      · have : Nat.beq q.1 k = false := by rw [← Bool.not_eq_true]; exact fun z => e (by rw [← ek]; exact Nat.eq_of_beq_eq_true z)
        rw [this, if_pos ek, if_pos ek]; rfl
      · rw [if_neg ek, if_neg ek]; rfl
theorem mx_c1_put {ls : List (Nat × Value)} (h : mx_c1 ls) {i : Nat} {v : Value} (hv : v.category = 1) : mx_c1 (mx_put ls i v) := by
  intro q hq
  rcases List.mem_cons.mp hq with rfl | hq
  · exact hv
  · exact h q (List.mem_filter.mp hq).1
theorem mx_sub.put {ls ls' : List (Nat × Value)} (h : mx_sub ls ls') {i : Nat} {v : Value} (hv : v.category = 1) : mx_sub (mx_put ls i v) (mx_put ls' i v) := by
  refine ⟨mx_c1_put h.1 hv, mx_c1_put h.2.1 hv, fun k w hk => ?_⟩
  unfold mx_put at hk ⊢
  unfold mx_at at hk ⊢
  cases hb : Nat.beq i k with
  | true => rw [hb] at hk; exact hk
  | false =>
    rw [hb] at hk
    dsimp only [cond] at hk ⊢
    rw [mx_at_keep h.1] at hk
    rw [mx_at_keep h.2.1]
    by_cases ek : k = i
    · rw [if_pos ek] at hk; cases hk
    · rw [if_neg ek] at hk ⊢
      exact h.2.2 k w hk
/-- it hands the locals on as they are -/
def mx_pass (F : List (Nat × Value) → Option mx_Cf) : Prop := ∀ ls ls' f, F ls = some f → f.2.1 = ls ∧ F ls' = some (f.1, ls', f.2.2)
theorem mx_pass_some {a : Nat} {c : List Value × List va_E × Nat × Nat} : mx_pass (fun ls => some (a, ls, c)) := by
  intro ls ls' f h
  cases h
  exact ⟨rfl, rfl⟩
theorem mx_pass_none : mx_pass (fun _ => none) := by
  intro ls ls' f h
  cases h
theorem mx_pass_cond {b : Bool} {F G : List (Nat × Value) → Option mx_Cf} (h1 : mx_pass F) (h2 : mx_pass G) : mx_pass (fun ls => cond b (F ls) (G ls)) := by
  cases b
  · exact h2
  · exact h1
theorem mx_pass_1 {f : Int32 → Int32} {pc : Nat} {st : List Value} {hp : List va_E} : mx_pass (fun ls => mx_a_1 f pc ls st hp) := by
  unfold mx_a_1
  split
  · exact mx_pass_some
  · exact mx_pass_none
theorem mx_pass_2 {f : Int32 → Int32 → Int32} {pc : Nat} {st : List Value} {hp : List va_E} : mx_pass (fun ls => mx_a_2 f pc ls st hp) := by
  unfold mx_a_2
  split
  · exact mx_pass_some
  · exact mx_pass_none
theorem mx_pass_2n {f : Int32 → Int32 → Int32} {pc : Nat} {st : List Value} {hp : List va_E} : mx_pass (fun ls => mx_a_2n f pc ls st hp) := by
  unfold mx_a_2n
  split
  · exact mx_pass_cond mx_pass_none mx_pass_some
  · exact mx_pass_none
theorem mx_pass_b1 {t : Int32 → Bool} {tgt pc : Nat} {st : List Value} {hp : List va_E} : mx_pass (fun ls => mx_a_b1 t tgt pc ls st hp) := by
  unfold mx_a_b1
  split
  · exact mx_pass_some
  · exact mx_pass_none
theorem mx_pass_b2 {t : Int32 → Int32 → Bool} {tgt pc : Nat} {st : List Value} {hp : List va_E} : mx_pass (fun ls => mx_a_b2 t tgt pc ls st hp) := by
  unfold mx_a_b2
  split
  · exact mx_pass_some
  · exact mx_pass_none
theorem mx_pass_get {ci k pc : Nat} {st : List Value} {hp : List va_E} : mx_pass (fun ls => mx_a_get ci k pc ls st hp) := by
  unfold mx_a_get
  split
  · split
    · refine mx_pass_cond ?_ mx_pass_none
      split
      · exact mx_pass_some
      · exact mx_pass_none
    · exact mx_pass_none
  · exact mx_pass_none
theorem mx_pass_sget {b pc : Nat} {st : List Value} {hp : List va_E} : mx_pass (fun ls => mx_a_sget b pc ls st hp) := by
  unfold mx_a_sget
  split
  · exact mx_pass_cond (mx_pass_cond mx_pass_some mx_pass_some) mx_pass_none
  · exact mx_pass_none
theorem mx_pass_put {ci k pc : Nat} {st : List Value} {hp : List va_E} : mx_pass (fun ls => mx_a_put ci k pc ls st hp) := by
  unfold mx_a_put
  split
  · split
    · exact mx_pass_cond mx_pass_some mx_pass_none
    · exact mx_pass_none
  · exact mx_pass_none
theorem mx_pass_ald {sL : Nat} {sx : Nat → Int32} {pc : Nat} {st : List Value} {hp : List va_E} : mx_pass (fun ls => mx_a_ald sL sx pc ls st hp) := by
  unfold mx_a_ald
  split
  · refine mx_pass_cond (mx_pass_cond mx_pass_some mx_pass_none) ?_
    split
    · exact mx_pass_cond mx_pass_some mx_pass_none
    · exact mx_pass_none
  · exact mx_pass_none
theorem mx_pass_zld {pc : Nat} {st : List Value} {hp : List va_E} : mx_pass (fun ls => mx_a_zld pc ls st hp) := by
  unfold mx_a_zld
  split
  · split
    · exact mx_pass_cond mx_pass_some mx_pass_none
    · exact mx_pass_none
  · exact mx_pass_none
theorem mx_pass_zl2 {pc : Nat} {st : List Value} {hp : List va_E} : mx_pass (fun ls => mx_a_zl2 pc ls st hp) := by
  unfold mx_a_zl2
  split
  · exact mx_pass_cond (mx_pass_cond mx_pass_some mx_pass_none) mx_pass_zld
  · exact mx_pass_none
theorem mx_pass_ast {pc : Nat} {st : List Value} {hp : List va_E} : mx_pass (fun ls => mx_a_ast pc ls st hp) := by
  unfold mx_a_ast
  split
  · split
    · exact mx_pass_cond mx_pass_some mx_pass_none
    · exact mx_pass_none
  · exact mx_pass_none
theorem mx_pass_zst {pc : Nat} {st : List Value} {hp : List va_E} : mx_pass (fun ls => mx_a_zst pc ls st hp) := by
  unfold mx_a_zst
  split
  · split
    · exact mx_pass_cond mx_pass_some mx_pass_none
    · exact mx_pass_none
  · exact mx_pass_none
theorem mx_pass_len {sL : Nat} {sx : Nat → Int32} {pc : Nat} {st : List Value} {hp : List va_E} : mx_pass (fun ls => mx_a_len sL sx pc ls st hp) := by
  unfold mx_a_len
  split
  · refine mx_pass_cond mx_pass_some ?_
    split
    · exact mx_pass_cond mx_pass_some mx_pass_none
    · exact mx_pass_none
  · exact mx_pass_none
theorem mx_pass_len2 {sL : Nat} {sx : Nat → Int32} {pc : Nat} {st : List Value} {hp : List va_E} : mx_pass (fun ls => mx_a_len2 sL sx pc ls st hp) := by
  unfold mx_a_len2
  split
  · exact mx_pass_cond mx_pass_some mx_pass_len
  · exact mx_pass_none
theorem mx_pass_na {t pc : Nat} {st : List Value} {hp : List va_E} : mx_pass (fun ls => mx_a_na t pc ls st hp) := by
  unfold mx_a_na
  split
  · exact mx_pass_cond mx_pass_some mx_pass_none
  · exact mx_pass_none
theorem mx_pass_new {ci pc : Nat} {st : List Value} {hp : List va_E} : mx_pass (fun ls => mx_a_new ci pc ls st hp) := by
  unfold mx_a_new
  exact mx_pass_cond mx_pass_some mx_pass_none
theorem mx_pass_dup {pc : Nat} {st : List Value} {hp : List va_E} : mx_pass (fun ls => mx_a_dup pc ls st hp) := by
  unfold mx_a_dup
  split
  · exact mx_pass_cond mx_pass_some mx_pass_none
  · exact mx_pass_none
theorem mx_pass_pop {pc : Nat} {st : List Value} {hp : List va_E} : mx_pass (fun ls => mx_a_pop pc ls st hp) := by
  unfold mx_a_pop
  split
  · exact mx_pass_cond mx_pass_some mx_pass_none
  · exact mx_pass_none
theorem mx_pass_dx1 {pc : Nat} {st : List Value} {hp : List va_E} : mx_pass (fun ls => mx_a_dx1 pc ls st hp) := by
  unfold mx_a_dx1
  split
  · exact mx_pass_cond mx_pass_some mx_pass_none
  · exact mx_pass_none
theorem mx_pass_dx2 {pc : Nat} {st : List Value} {hp : List va_E} : mx_pass (fun ls => mx_a_dx2 pc ls st hp) := by
  unfold mx_a_dx2
  split
  · exact mx_pass_cond mx_pass_some mx_pass_none
  · exact mx_pass_none
theorem mx_pass_d2 {pc : Nat} {st : List Value} {hp : List va_E} : mx_pass (fun ls => mx_a_d2 pc ls st hp) := by
  unfold mx_a_d2
  split
  · exact mx_pass_cond mx_pass_some mx_pass_none
  · exact mx_pass_none
theorem mx_pass_ts {pc : Nat} {dflt lo hi : Int} {offs : Array Int} {st : List Value} {hp : List va_E} : mx_pass (fun ls => mx_a_ts pc dflt lo hi offs ls st hp) := by
  unfold mx_a_ts
  split
  · refine mx_pass_cond (mx_pass_cond mx_pass_some mx_pass_none) ?_
    split
    · exact mx_pass_cond mx_pass_some mx_pass_none
    · exact mx_pass_none
  · exact mx_pass_none
theorem mx_pass_nat {b pc : Nat} {st : List Value} {hp : List va_E} : mx_pass (fun ls => mx_nat b pc ls st hp) := by
  unfold mx_nat
  split
  · unfold mx_a_cpy
    split
    · split
      · split
        · exact mx_pass_cond mx_pass_some mx_pass_none
        · exact mx_pass_none
      · exact mx_pass_none
    · exact mx_pass_none
  · unfold mx_a_m
    split
    · exact mx_pass_cond mx_pass_some mx_pass_none
    · exact mx_pass_none
  · unfold mx_a_m
    split
    · exact mx_pass_cond mx_pass_some mx_pass_none
    · exact mx_pass_none
  · unfold mx_a_ci
    split
    · exact mx_pass_cond mx_pass_some mx_pass_none
    · exact mx_pass_none
  · exact mx_pass_none
/-- with more locals it does the same -/
def mx_more (ls' : List (Nat × Value)) (f : mx_Cf) (r : Option mx_Cf) : Prop := ∃ l', r = some (f.1, l', f.2.2) ∧ mx_sub f.2.1 l'
theorem mx_more_pass {F : List (Nat × Value) → Option mx_Cf} (h : mx_pass F) {ls ls' : List (Nat × Value)} {f : mx_Cf} (hs : mx_sub ls ls') (hf : F ls = some f) : mx_more ls' f (F ls') := by
  obtain ⟨h1, h2⟩ := h ls ls' f hf
  exact ⟨ls', h2, by rw [h1]; exact hs⟩
theorem mx_more_li {pc i : Nat} {ls ls' : List (Nat × Value)} {st : List Value} {hp : List va_E} {f : mx_Cf} (hs : mx_sub ls ls') (hf : mx_a_li pc i ls st hp = some f) : mx_more ls' f (mx_a_li pc i ls' st hp) := by
  unfold mx_a_li at hf ⊢
  split at hf
  · rename_i x hx
    cases hf
    rw [hs.2.2 _ _ hx]
    exact ⟨ls', rfl, hs⟩
  · cases hf
theorem mx_more_la {pc i : Nat} {ls ls' : List (Nat × Value)} {st : List Value} {hp : List va_E} {f : mx_Cf} (hs : mx_sub ls ls') (hf : mx_a_la pc i ls st hp = some f) : mx_more ls' f (mx_a_la pc i ls' st hp) := by
  unfold mx_a_la at hf ⊢
  split at hf
  · rename_i x hx
    cases hf
    rw [hs.2.2 _ _ hx]
    exact ⟨ls', rfl, hs⟩
  · cases hf
theorem mx_more_si {pc i : Nat} {ls ls' : List (Nat × Value)} {st : List Value} {hp : List va_E} {f : mx_Cf} (hs : mx_sub ls ls') (hf : mx_a_si pc i ls st hp = some f) : mx_more ls' f (mx_a_si pc i ls' st hp) := by
  unfold mx_a_si at hf ⊢
  split at hf
  · cases hf
    exact ⟨_, rfl, hs.put rfl⟩
  · cases hf
theorem mx_more_sa {pc i : Nat} {ls ls' : List (Nat × Value)} {st : List Value} {hp : List va_E} {f : mx_Cf} (hs : mx_sub ls ls') (hf : mx_a_sa pc i ls st hp = some f) : mx_more ls' f (mx_a_sa pc i ls' st hp) := by
  unfold mx_a_sa at hf ⊢
  split at hf
  · cases hf
    exact ⟨_, rfl, hs.put rfl⟩
  · cases hf
theorem mx_more_inc {pc i : Nat} {n : Int} {ls ls' : List (Nat × Value)} {st : List Value} {hp : List va_E} {f : mx_Cf} (hs : mx_sub ls ls') (hf : mx_a_inc pc i n ls st hp = some f) : mx_more ls' f (mx_a_inc pc i n ls' st hp) := by
  unfold mx_a_inc at hf ⊢
  split at hf
  · rename_i x hx
    cases hf
    rw [hs.2.2 _ _ hx]
    exact ⟨_, rfl, hs.put rfl⟩
  · cases hf
theorem mx_step_sub {sL : Nat} {sx : Nat → Int32} {q : mx_In} {pc : Nat} {ls ls' : List (Nat × Value)} {st : List Value} {hp : List va_E} {f : mx_Cf} (hs : mx_sub ls ls') (hf : mx_step sL sx q pc ls st hp = some f) : mx_more ls' f (mx_step sL sx q pc ls' st hp) := by
  obtain ⟨ins, q⟩ := q
  unfold mx_step at hf ⊢
  dsimp only at hf ⊢
  split at hf
  all_goals first
    | (cases hf; done)
    | exact mx_more_li hs hf
    | exact mx_more_la hs hf
    | exact mx_more_si hs hf
    | exact mx_more_sa hs hf
    | exact mx_more_inc hs hf
    | exact mx_more_pass mx_pass_1 hs hf
    | exact mx_more_pass mx_pass_2 hs hf
    | exact mx_more_pass mx_pass_2n hs hf
    | exact mx_more_pass mx_pass_b1 hs hf
    | exact mx_more_pass mx_pass_b2 hs hf
    | exact mx_more_pass mx_pass_ts hs hf
    | exact mx_more_pass (mx_pass_cond mx_pass_sget mx_pass_get) hs hf
    | exact mx_more_pass mx_pass_put hs hf
    | exact mx_more_pass mx_pass_ald hs hf
    | exact mx_more_pass mx_pass_ast hs hf
    | exact mx_more_pass mx_pass_zl2 hs hf
    | exact mx_more_pass mx_pass_zst hs hf
    | exact mx_more_pass mx_pass_len2 hs hf
    | exact mx_more_pass mx_pass_na hs hf
    | exact mx_more_pass mx_pass_new hs hf
    | exact mx_more_pass mx_pass_dup hs hf
    | exact mx_more_pass mx_pass_pop hs hf
    | exact mx_more_pass mx_pass_dx1 hs hf
    | exact mx_more_pass mx_pass_dx2 hs hf
    | exact mx_more_pass mx_pass_d2 hs hf
    | exact mx_more_pass (mx_pass_cond mx_pass_some mx_pass_some) hs hf
    | exact mx_more_pass mx_pass_some hs hf
set_option maxHeartbeats 4000000 in
theorem mx_run_sub {sL : Nat} {sx : Nat → Int32} {pg : List mx_En} : ∀ (n d mi pc : Nat) (ls ls' : List (Nat × Value)) (st : List Value) (hp : List va_E) (c s : Nat) (r : Option Value × List va_E × Nat × Nat), mx_sub ls ls' → mx_run sL sx pg n d mi pc ls st hp c s = some r → mx_run sL sx pg n d mi pc ls' st hp c s = some r := by
  intro n
  induction n with
  | zero => intro d mi pc ls ls' st hp c s r hs h; cases h
  | succ n ih =>
    intro d mi pc ls ls' st hp c s r hs h
    unfold mx_run at h ⊢
    cases he : pg[mi]? with
    | none => rw [he] at h; cases h
    | some e =>
      rw [he] at h
      dsimp only at h ⊢
      cases hq : mx_lk e.2.2.2 pc with
      | none => rw [hq] at h; cases h
      | some q =>
        rw [hq] at h
        dsimp only at h ⊢
        split at h
        · exact h
        · exact h
        · split at h
          · cases h
          split at h
          · cases h
          split at h
          · rw [Bool.cond_eq_ite] at h ⊢
            split at h
            · rename_i hb
              rw [if_pos hb]
              split at h
              · cases h
              rename_i r1 hr1
              exact ih _ _ _ _ _ _ _ _ _ _ hs h
            · cases h
          · cases h
        · split at h
          · cases h
          rw [Bool.cond_eq_ite] at h ⊢
          split at h
          · rename_i hb
            rw [if_pos hb]
            split at h
            · rw [Bool.cond_eq_ite] at h ⊢
              split at h
              · rename_i hb2
                rw [if_pos hb2]
                exact ih _ _ _ _ _ _ _ _ _ _ hs h
              · cases h
            · cases h
          · rename_i hb
            rw [if_neg hb]
            split at h
            · cases h
            split at h
            · rw [Bool.cond_eq_ite] at h ⊢
              split at h
              · rename_i hb2
                rw [if_pos hb2]
                split at h
                · cases h
                rename_i r1 hr1
                exact ih _ _ _ _ _ _ _ _ _ _ hs h
              · cases h
            · cases h
        · split at h
          · cases h
          rename_i d1
          rw [Bool.cond_eq_ite] at h ⊢
          split at h
          · rename_i hb
            rw [if_pos hb]
            split at h
            · cases h
            rename_i f hf
            have hp1 : mx_pass (fun ls => cond (Nat.beq d1 0) none (mx_nat q.2.2.2.1 (pc + 3) ls st hp)) := mx_pass_cond mx_pass_none mx_pass_nat
            obtain ⟨l', g1, g2⟩ := mx_more_pass hp1 hs hf
            rw [g1]
            exact ih _ _ _ _ _ _ _ _ _ _ g2 h
          · rename_i hb
            rw [if_neg hb]
            split at h
            · cases h
            rw [Bool.cond_eq_ite] at h ⊢
            split at h
            · rename_i hb2
              rw [if_pos hb2]
              split at h
              · cases h
              rename_i r1 hr1
              exact ih _ _ _ _ _ _ _ _ _ _ hs h
            · cases h
        · split at h
          · cases h
          rename_i f hf
          obtain ⟨l', g1, g2⟩ := mx_step_sub hs hf
          rw [g1]
          exact ih _ _ _ _ _ _ _ _ _ _ g2 h
theorem sx_c1 (ls : sx_L) : mx_c1 (ls.map sx_ed) := by
  intro q hq
  obtain ⟨x, -, rfl⟩ := List.mem_map.mp hq
  exact sx_e_cat x.2
end
section
/-! ===== a method's course over integers: what must hold from a place on, up to places where it stops; the evaluator ends there ===== -/
def sx_spl : Nat → List sx_V → List sx_V → Option (List sx_V × List sx_V)
  | 0, acc, st => some (acc, st)
  | n + 1, acc, v :: st => sx_spl n (v :: acc) st
  | _ + 1, _, [] => none
theorem sx_spl_ok : ∀ (n : Nat) (acc st av rest : List sx_V), sx_spl n acc st = some (av, rest) → st.drop n = rest ∧ av = (st.take n).reverse ++ acc ∧ (st.take n).length = n
  | 0, acc, st, av, rest, h => by
    cases h
    exact ⟨rfl, rfl, rfl⟩
  | n + 1, acc, [], av, rest, h => by cases h
  | n + 1, acc, v :: st, av, rest, h => by
    obtain ⟨h1, h2, h3⟩ := sx_spl_ok n (v :: acc) st av rest h
    refine ⟨h1, ?_, ?_⟩
    · rw [h2, List.take_succ_cons, List.reverse_cons, List.append_assoc]; rfl
    · rw [List.take_succ_cons, List.length_cons, h3]
def sx_le8 : List sx_V → Nat → Bool
  | [], _ => true
  | _ :: _, 0 => false
  | _ :: l, n + 1 => sx_le8 l n
theorem sx_le8_ok : ∀ (l : List sx_V) (n : Nat), sx_le8 l n = true → mx_cs (l.map sx_e) ≤ n
  | [], n, _ => Nat.zero_le _
  | v :: l, 0, h => by cases h
  | v :: l, n + 1, h => by
    have := sx_le8_ok l n h
    unfold mx_cs at this ⊢
    rw [List.map_cons, List.map_cons, List.sum_cons, sx_e_cat]
    omega
def sx_argsF : Nat → List sx_V → sx_L
  | _, [] => []
  | k, v :: vs => (k, v) :: sx_argsF (k + 1) vs
theorem sx_argsF_ed : ∀ (k : Nat) (av : List sx_V), lv_args k (av.map sx_e) = (sx_argsF k av).map sx_ed
  | _, [] => rfl
  | k, v :: vs => by
    rw [List.map_cons, lv_args, sx_e_cat, sx_argsF_ed]
    rfl
theorem sx_sl_len : ∀ av : List sx_V, (lg_sl (av.map sx_e)).length = av.length
  | [] => rfl
  | v :: vs => by
    have ih := sx_sl_len vs
    unfold lg_sl at ih ⊢
    rw [List.map_cons, List.flatMap_cons, List.length_append, ih, sx_e_cat]
    simp
    omega
def sx_rs (rt : Option FieldType) (z : Int) (rest : List sx_V) : List sx_V := match rt with
  | none => rest
  | _ => .inl z :: rest
def sx_vo (rt : Option FieldType) (z : Int) : Option Value := match rt with
  | none => none
  | _ => some (.int (Int32.ofInt z))
theorem sx_rs_ed (rt : Option FieldType) (z : Int) (rest : List sx_V) : (sx_vo rt z).toList ++ rest.map sx_e = (sx_rs rt z rest).map sx_e := by
  cases rt <;> rfl
def sx_ret (rt : Option FieldType) (st : List sx_V) (s : sx_S) (R : Int → sx_S → Prop) : Prop := match st with
  | [.inl v] => match rt with
    | some .int => R v s
    | some .boolean => (v = 0 ∨ v = 1) ∧ R v s
    | some .char => (0 ≤ v ∧ v ≤ 65535) ∧ R v s
    | some .byte => (-128 ≤ v ∧ v ≤ 127) ∧ R v s
    | _ => False
  | _ => False
def sx_rtv (rt : Option FieldType) (st : List sx_V) (s : sx_S) (R : Int → sx_S → Prop) : Prop := match st with
  | [] => match rt with
    | none => R 0 s
    | _ => False
  | _ => False
abbrev sx_Ca : Type := Nat → List sx_V → sx_S → (Int → sx_S → Prop) → Prop
def sx_rcv (b i : Nat) : Bool := cond (Nat.beq b 13) (mx_isS i) (match sx_ob i with
  | some o => Nat.beq o.1 (mx_rc b)
  | none => false)
def sx_inv (CALL : sx_Ca) (a b : Nat) (st : List sx_V) (s : sx_S) (k : List sx_V → sx_S → Prop) : Prop := match mx_pg[a]? with
  | none => False
  | some e1 => match sx_spl e1.2.1 [] st with
    | some (av, .inr (.inl i) :: rest) => cond (sx_rcv b i && sx_le8 rest 8 && Nat.ble (e1.2.1 + 1) e1.1.2.2.1) (CALL a (.inr (.inl i) :: av) s (fun z t => k (sx_rs e1.1.2.2.2 z rest) t)) False
    | _ => False
def sx_ins (CALL : sx_Ca) (a : Nat) (st : List sx_V) (s : sx_S) (k : List sx_V → sx_S → Prop) : Prop := match mx_pg[a]? with
  | none => False
  | some e1 => match sx_spl e1.2.1 [] st with
    | some (av, rest) => cond (sx_le8 rest 8 && Nat.ble e1.2.1 e1.1.2.2.1) (CALL a av s (fun z t => k (sx_rs e1.1.2.2.2 z rest) t)) False
    | none => False
def sx_cpy (A : Nat → Nat → Int) (p0 p1 sp dp n : Nat) : Nat → Nat → Int := fun p j => cond (Nat.beq p p1) (if dp ≤ j ∧ j < dp + n then A p0 (sp + (j - dp)) else A p1 j) (A p j)
def sx_nv (b : Nat) (st : List sx_V) (s : sx_S) (k : List sx_V → sx_S → Prop) : Prop := match b with
  | 7 => match st with
    | .inl n :: .inl dp :: .inr (.inl i1) :: .inl sp :: .inr (.inl i0) :: r => match sx_ar i0 with
      | some (0, n0) => match sx_ar i1 with
        | some (0, n1) => cond (sx_le8 r 8) ((0 ≤ sp ∧ 0 ≤ dp ∧ 0 ≤ n ∧ sp + n ≤ (n0 : Int) ∧ dp + n ≤ (n1 : Int)) ∧ k r (s.1, sx_cpy s.2.1 i0 i1 sp.toNat dp.toNat n.toNat, s.2.2)) False
        | _ => False
      | _ => False
    | _ => False
  | 8 => match st with
    | .inl y :: .inl x :: r => cond (sx_le8 r 8) ((sx_in x ∧ sx_in y) ∧ k (.inl (if x < y then y else x) :: r) s) False
    | _ => False
  | 9 => match st with
    | .inl y :: .inl x :: r => cond (sx_le8 r 8) ((sx_in x ∧ sx_in y) ∧ k (.inl (if y < x then y else x) :: r) s) False
    | _ => False
  | 10 => match st with
    | .inl y :: .inl x :: r => cond (sx_le8 r 8) ((sx_in x ∧ sx_in y ∧ 0 ≤ x ∧ x < y) ∧ k r s) False
    | _ => False
  | _ => False
/-- of the locals those that are wanted, in this order -/
def sx_pk : List Nat → sx_L → (sx_L → Prop) → Prop
  | [], _, k => k []
  | i :: is, ls, k => match sx_at ls i with
    | some (.inl x) => sx_pk is ls (fun l => k ((i, .inl x) :: l))
    | some (.inr x) => sx_pk is ls (fun l => k ((i, .inr x) :: l))
    | none => False
theorem sx_pk_ok {ls : sx_L} : ∀ (is : List Nat) (k : sx_L → Prop), sx_pk is ls k → ∃ l, k l ∧ ∀ i v, sx_at l i = some v → sx_at ls i = some v
  | [], k, h => ⟨[], h, fun i v q => by cases q⟩
  | i :: is, k, h => by
    unfold sx_pk at h
    split at h
    · rename_i x hx
      obtain ⟨l, h1, h2⟩ := sx_pk_ok is _ h
      refine ⟨_, h1, fun j v q => ?_⟩
      unfold sx_at at q
      cases hb : Nat.beq i j with
      | true =>
        rw [show Nat.beq (i, (Sum.inl x : sx_V)).1 j = true from hb] at q
        rw [← Nat.eq_of_beq_eq_true hb, hx]
        exact q
      | false =>
        rw [show Nat.beq (i, (Sum.inl x : sx_V)).1 j = false from hb] at q
        exact h2 j v q
    · rename_i x hx
      obtain ⟨l, h1, h2⟩ := sx_pk_ok is _ h
      refine ⟨_, h1, fun j v q => ?_⟩
      unfold sx_at at q
      cases hb : Nat.beq i j with
      | true =>
        rw [show Nat.beq (i, (Sum.inr x : sx_V)).1 j = true from hb] at q
        rw [← Nat.eq_of_beq_eq_true hb, hx]
        exact q
      | false =>
        rw [show Nat.beq (i, (Sum.inr x : sx_V)).1 j = false from hb] at q
        exact h2 j v q
    · exact h.elim
/-- where it stops, and which locals it keeps there -/
abbrev sx_Sp : Type := List (Nat × List Nat)
def sx_mem : sx_Sp → Nat → Option (List Nat)
  | [], _ => none
  | q :: l, i => cond (Nat.beq q.1 i) (some q.2) (sx_mem l i)
def sx_cut (stop : sx_Sp) (Q : Nat → sx_L → sx_S → Prop) (k : sx_K) : sx_K := fun pc ls st s => match sx_mem stop pc with
  | some is => match st with
    | [] => sx_pk is ls (fun l => Q pc l s)
    | _ => False
  | none => k pc ls st s
def sx_wp (wr : Bool) (sL : Nat) (sx : Nat → Int32) (e : mx_En) (CALL : sx_Ca) (stop : sx_Sp) (Q : Nat → sx_L → sx_S → Prop) (R : Int → sx_S → Prop) : Nat → sx_K
  | 0, _, _, _, _ => False
  | n + 1, pc, ls, st, s => match mx_lk e.2.2.2 pc with
    | none => False
    | some (ins, _, a, b, _) => match ins with
      | .ireturn => sx_ret e.1.2.2.2 st s R
      | .return_ => sx_rtv e.1.2.2.2 st s R
      | .invokevirtual _ => sx_inv CALL a b st s (fun st' t => sx_cut stop Q (sx_wp wr sL sx e CALL stop Q R n) (pc + 3) ls st' t)
      | .invokestatic _ => cond (Nat.ble 7 b) (sx_nv b st s (fun st' t => sx_cut stop Q (sx_wp wr sL sx e CALL stop Q R n) (pc + 3) ls st' t)) (sx_ins CALL a st s (fun st' t => sx_cut stop Q (sx_wp wr sL sx e CALL stop Q R n) (pc + 3) ls st' t))
      | _ => sx_st wr sL sx ins a b pc ls st s (sx_cut stop Q (sx_wp wr sL sx e CALL stop Q R n))
/-- from here it ends, and R holds of answer and state -/
def sx_E (sL : Nat) (sx : Nat → Int32) (d mi pc : Nat) (ls : sx_L) (st : List sx_V) (s : sx_S) (R : Int → sx_S → Prop) : Prop := s.2.2.2 ≤ 500000 → ∀ e, mx_pg[mi]? = some e → ∀ c n, ∃ z t, mx_ends sL sx mx_pg d mi pc (ls.map sx_ed) (st.map sx_e) (sx_hp s) c n (sx_vo e.1.2.2.2 z, sx_hp t, c + (t.2.2.2 - s.2.2.2), n + 8 * (t.2.2.2 - s.2.2.2)) ∧ s.2.2.2 ≤ t.2.2.2 ∧ t.2.2.2 ≤ 500000 ∧ R z t
theorem sx_E.more {sL : Nat} {sx : Nat → Int32} {d mi pc : Nat} {ls l : sx_L} {st : List sx_V} {s : sx_S} {R : Int → sx_S → Prop} (h : sx_E sL sx d mi pc l st s R) (hl : ∀ i v, sx_at l i = some v → sx_at ls i = some v) : sx_E sL sx d mi pc ls st s R := by
  intro hw e he c n
  obtain ⟨z, t, ⟨k, h1⟩, h2⟩ := h hw e he c n
  refine ⟨z, t, ⟨k, mx_run_sub k d mi pc _ _ _ _ c n _ ⟨sx_c1 _, sx_c1 _, fun i v q => ?_⟩ h1⟩, h2⟩
  rw [sx_at_ed] at q ⊢
  cases hq : sx_at l i with
  | none => rw [hq] at q; cases q
  | some x =>
    rw [hq] at q
    rw [hl i x hq]
    exact q
theorem sx_vo_ret {rt : Option FieldType} {st : List sx_V} {s : sx_S} {R : Int → sx_S → Prop} (h : sx_ret rt st s R) : ∃ v, st = [.inl v] ∧ mx_rok rt (Int32.ofInt v) = true ∧ sx_vo rt v = some (.int (Int32.ofInt v)) ∧ R v s := by
  unfold sx_ret at h
  split at h
  · rename_i v
    refine ⟨v, rfl, ?_⟩
    split at h
    · exact ⟨rfl, rfl, h⟩
    · refine ⟨?_, rfl, h.2⟩
      rcases h.1 with rfl | rfl <;> rfl
    · refine ⟨?_, rfl, h.2⟩
      obtain ⟨⟨h0, h1⟩, -⟩ := h
      have e : Int32.ofInt v = ((Int32.ofInt v).toUInt32 % 65536).toInt32 := by
        obtain ⟨k, rfl⟩ := Int.eq_ofNat_of_zero_le h0
        have hk : k ≤ 65535 := by omega
        apply Int32.toInt_inj.mp
        rw [sx_toInt ⟨by omega, by omega⟩]
        have e1 : ((Int32.ofInt (k : Int)).toUInt32 % 65536).toNat = k := by
          rw [UInt32.toNat_mod, Int32.toNat_toUInt32_of_le (by rw [sx_z0, sx_le sx_in0 ⟨by omega, by omega⟩]; omega), sx_nat (by omega) (by omega)]
          show ((k : Int).toNat) % 65536 = k
          simp; omega
        rw [show ((Int32.ofInt (k : Int)).toUInt32 % 65536) = UInt32.ofNat k by
          apply UInt32.toNat_inj.mp
          rw [e1, UInt32.toNat_ofNat_of_lt' (by show k < 4294967296; omega)]]
        rw [show (UInt32.ofNat k).toInt32 = Int32.ofNat k from rfl, Int32.toInt_ofNat_of_lt (by omega)]
      show (Int32.ofInt v == ((Int32.ofInt v).toUInt32 % 65536).toInt32) = true
      rw [← e]
      simp
    · refine ⟨?_, rfl, h.2⟩
      obtain ⟨⟨h0, h1⟩, -⟩ := h
      show (Int32.ofInt v == (Int32.ofInt v).toInt8.toInt32) = true
      rw [Int32.toInt8_ofInt, sx_i8 (by rw [Bool.and_eq_true]; exact ⟨decide_eq_true h0, decide_eq_true h1⟩)]
      simp
    · exact h.elim
  · exact h.elim
section SXW
variable {wr : Bool} {sL : Nat} {sx : Nat → Int32} {d mi : Nat} {e : mx_En} {CALL : sx_Ca} {stop : sx_Sp} {Q : Nat → sx_L → sx_S → Prop} {R : Int → sx_S → Prop}
/-- behind what took w on -/
theorem sx_E_then {pc pc' : Nat} {ls ls' : sx_L} {st st' : List sx_V} {s t : sx_S} (he : mx_pg[mi]? = some e) (hw : s.2.2.2 ≤ t.2.2.2) (ht : t.2.2.2 ≤ 500000) (h : ∀ c n r, mx_ends sL sx mx_pg d mi pc' (ls'.map sx_ed) (st'.map sx_e) (sx_hp t) (c + (t.2.2.2 - s.2.2.2)) (n + 8 * (t.2.2.2 - s.2.2.2)) r → mx_ends sL sx mx_pg d mi pc (ls.map sx_ed) (st.map sx_e) (sx_hp s) c n r) (hE : sx_E sL sx d mi pc' ls' st' t R) : sx_E sL sx d mi pc ls st s R := by
  intro _ e' he' c n
  obtain ⟨z, t', h1, h2, h3, h4⟩ := hE ht e' he' (c + (t.2.2.2 - s.2.2.2)) (n + 8 * (t.2.2.2 - s.2.2.2))
  refine ⟨z, t', ?_, by omega, h3, h4⟩
  have := h c n _ h1
  rw [show c + (t.2.2.2 - s.2.2.2) + (t'.2.2.2 - t.2.2.2) = c + (t'.2.2.2 - s.2.2.2) by omega, show n + 8 * (t.2.2.2 - s.2.2.2) + 8 * (t'.2.2.2 - t.2.2.2) = n + 8 * (t'.2.2.2 - s.2.2.2) by omega] at this
  exact this
set_option maxHeartbeats 1000000 in
theorem sx_sound (hsL : sL ≤ 3072) (he : mx_pg[mi]? = some e) (hC : ∀ a av s K, CALL a av s K → sx_E sL sx (d + 1) a 0 (sx_argsF 0 av) [] s K) (hQ : ∀ pc ls s, Q pc ls s → sx_E sL sx (d + 2) mi pc ls [] s R) : ∀ (n pc : Nat) (ls : sx_L) (st : List sx_V) (s : sx_S), sx_wp wr sL sx e CALL stop Q R n pc ls st s → sx_E sL sx (d + 2) mi pc ls st s R := by
  intro n
  induction n with
  | zero => intro pc ls st s h; exact h.elim
  | succ n ih =>
    intro pc ls st s h hw
    have cut : ∀ (pc : Nat) (ls : sx_L) (st : List sx_V) (s : sx_S), sx_cut stop Q (sx_wp wr sL sx e CALL stop Q R n) pc ls st s → sx_E sL sx (d + 2) mi pc ls st s R := by
      intro pc ls st s h
      unfold sx_cut at h
      split at h
      · split at h
        · obtain ⟨l, h1, h2⟩ := sx_pk_ok _ _ h
          refine sx_E.more (hQ _ _ _ h1) h2
        · exact h.elim
      · exact ih _ _ _ _ h
    unfold sx_wp at h
    cases hq : mx_lk e.2.2.2 pc with
    | none => rw [hq] at h; exact h.elim
    | some q =>
      rw [hq] at h
      dsimp only at h
      obtain ⟨ins, len, a, b, w⟩ := q
      dsimp only at h
      split at h
      · -- ireturn
        obtain ⟨v, rfl, h1, h2, h3⟩ := sx_vo_ret h
        intro e' he' c n'
        cases he.symm.trans he'
        refine ⟨v, s, ?_, Nat.le_refl _, hw, h3⟩
        rw [h2, Nat.sub_self]
        exact mx_ends_iret he hq h1
      · -- return
        intro e' he' c n'
        cases he.symm.trans he'
        unfold sx_rtv at h
        split at h
        · split at h
          · rename_i hrt
            refine ⟨0, s, ?_, Nat.le_refl _, hw, h⟩
            rw [hrt, Nat.sub_self]
            exact mx_ends_vret he hq (by rw [hrt]; rfl)
          · exact h.elim
        · exact h.elim
      · -- invokevirtual
        unfold sx_inv at h
        split at h
        · exact h.elim
        rename_i e1 ha
        split at h
        · rename_i av i rest hsp
          obtain ⟨s1, s2, s3⟩ := sx_spl_ok _ _ _ _ _ hsp
          rw [List.append_nil] at s2
          by_cases hb : (sx_rcv b i && sx_le8 rest 8 && Nat.ble (e1.2.1 + 1) e1.1.2.2.1) = true
          · rw [hb] at h
            simp only [Bool.and_eq_true] at hb
            obtain ⟨⟨b1, b2⟩, b3⟩ := hb
            intro e' he' c n'
            cases he.symm.trans he'
            obtain ⟨z, t, c1, c2, c3, c4⟩ := hC _ _ _ _ h hw e1 ha 0 0
            have hE := cut _ _ _ _ c4
            have hisc : mx_isc (sx_hp s) i b = true := by
              unfold sx_rcv at b1
              unfold mx_isc
              cases q13 : Nat.beq b 13 with
              | true =>
                rw [q13] at b1
                dsimp only [cond] at b1 ⊢
                exact b1
              | false =>
                rw [q13] at b1
                dsimp only [cond] at b1 ⊢
                split at b1
                · rename_i o ho
                  rw [sx_hp_at (sx_ob_at (s := s) ho).1]
                  exact b1
                · cases b1
            have hbb : (mx_isc (sx_hp s) i b && Nat.ble (mx_cs (rest.map sx_e)) 8 && Nat.ble (lg_sl (.ref i :: (((st.map sx_e).take e1.2.1).reverse))).length e1.1.2.2.1 && Nat.beq ((st.map sx_e).take e1.2.1).length e1.2.1) = true := by
              rw [hisc, Nat.ble_eq.mpr (sx_le8_ok _ _ b2)]
              have e3 : (lg_sl (.ref i :: (((st.map sx_e).take e1.2.1).reverse))).length = e1.2.1 + 1 := by
                have := sx_sl_len ((.inr (.inl i) : sx_V) :: (st.take e1.2.1).reverse)
                rw [List.length_cons, List.length_reverse, s3] at this
                rw [← this, ← List.map_take, ← List.map_reverse]
                rfl
              rw [e3, b3, ← List.map_take, List.length_map, s3, Nat.beq_refl]
              rfl
            have hst : (st.map sx_e).drop e1.2.1 = .ref i :: rest.map sx_e := by
              rw [← List.map_drop, s1]
              rfl
            have c1' : mx_ends sL sx mx_pg (d + 1) a 0 (lv_args 0 (.ref i :: (((st.map sx_e).take e1.2.1).reverse))) [] (sx_hp s) 0 0 (sx_vo e1.1.2.2.2 z, sx_hp t, 0 + (t.2.2.2 - s.2.2.2), 0 + 8 * (t.2.2.2 - s.2.2.2)) := by
              rw [← List.map_take, ← List.map_reverse, ← s2]
              exact (sx_argsF_ed 0 (.inr (.inl i) :: av)).symm ▸ c1
            refine sx_E_then (t := t) (ls := ls) (ls' := ls) (st' := sx_rs e1.1.2.2.2 z rest) (pc' := pc + 3) he c2 c3 (fun c n r hr => ?_) hE hw _ he c n'
            refine mx_ends_V he hq ha hst hbb c1' ?_
            rw [sx_rs_ed, Nat.zero_add, Nat.zero_add]
            exact hr
          · rw [Bool.not_eq_true] at hb
            rw [hb] at h
            exact h.elim
        · exact h.elim
      · -- invokestatic
        cases h7 : Nat.ble 7 b with
        | true =>
          rw [h7] at h
          dsimp only [cond] at h
          have fin : ∀ (pc' : Nat) (st' : List sx_V) (t : sx_S), t.2.2.2 = s.2.2.2 → mx_nat b (pc + 3) (ls.map sx_ed) (st.map sx_e) (sx_hp s) = some (pc', ls.map sx_ed, st'.map sx_e, sx_hp t, 0, 0) → sx_cut stop Q (sx_wp wr sL sx e CALL stop Q R n) pc' ls st' t → sx_E sL sx (d + 2) mi pc ls st s R := by
            intro pc' st' t ht hn hk
            refine sx_E_then (t := t) he (Nat.le_of_eq ht.symm) (by omega) (fun c n r hr => ?_) (cut _ _ _ _ hk)
            refine mx_ends_N he hq h7 hn ?_
            rw [ht, Nat.sub_self] at hr
            exact hr
          unfold sx_nv at h
          split at h
          · split at h
            · rename_i nn dp i1 sp i0 r
              split at h
              · rename_i n0 h0
                split at h
                · rename_i n1 h1
                  cases h8 : sx_le8 r 8 with
                  | false => rw [h8] at h; exact h.elim
                  | true =>
                    rw [h8] at h
                    obtain ⟨⟨g1, g2, g3, g4, g5⟩, hk⟩ := h
                    refine fin (pc + 3) r (s.1, sx_cpy s.2.1 i0 i1 sp.toNat dp.toNat nn.toNat, s.2.2) rfl ?_ hk hw
                    have l0 := (sx_ar_len h0).1
                    have l1 := (sx_ar_len h1).1
                    dsimp only at l0 l1
                    have hd : (decide (¬ Int32.ofInt sp < 0) && decide (¬ Int32.ofInt dp < 0) && decide (¬ Int32.ofInt nn < 0) && Nat.ble ((Int32.ofInt sp).toNatClampNeg + (Int32.ofInt nn).toNatClampNeg) n0 && Nat.ble ((Int32.ofInt dp).toNatClampNeg + (Int32.ofInt nn).toNatClampNeg) n1 && Nat.ble (mx_cs (r.map sx_e)) 8) = true := by
                      have z1 : ∀ x : Int, 0 ≤ x → x ≤ 1000000 → ¬ Int32.ofInt x < 0 := fun x q1 q2 q3 => by
                        rw [sx_z0, sx_lt ⟨by omega, by omega⟩ sx_in0] at q3
                        omega
                      rw [decide_eq_true (z1 sp g1 (by omega)), decide_eq_true (z1 dp g2 (by omega)), decide_eq_true (z1 nn g3 (by omega)), sx_nat g1 (by omega), sx_nat g2 (by omega), sx_nat g3 (by omega), Nat.ble_eq.mpr (show sp.toNat + nn.toNat ≤ n0 by omega), Nat.ble_eq.mpr (show dp.toNat + nn.toNat ≤ n1 by omega), Nat.ble_eq.mpr (sx_le8_ok _ _ h8)]
                      rfl
                    show mx_a_cpy (pc + 3) (ls.map sx_ed) (.int (Int32.ofInt nn) :: .int (Int32.ofInt dp) :: .ref i1 :: .int (Int32.ofInt sp) :: .ref i0 :: r.map sx_e) (sx_hp s) = _
                    have a0 := sx_hp_at (s := s) (sx_ar_at h0).1
                    have a1 := sx_hp_at (s := s) (sx_ar_at h1).1
                    unfold mx_a_cpy
                    dsimp only
                    rw [a0, a1]
                    show cond (decide (¬ Int32.ofInt sp < 0) && decide (¬ Int32.ofInt dp < 0) && decide (¬ Int32.ofInt nn < 0) && Nat.ble ((Int32.ofInt sp).toNatClampNeg + (Int32.ofInt nn).toNatClampNeg) n0 && Nat.ble ((Int32.ofInt dp).toNatClampNeg + (Int32.ofInt nn).toNatClampNeg) n1 && Nat.ble (mx_cs (r.map sx_e)) 8) (some (pc + 3, ls.map sx_ed, r.map sx_e, (sx_hp s).set i1 (.inl (0, n1, .inl (va_cpy (fun j => Int32.ofInt (s.2.1 i0 j)) (fun j => Int32.ofInt (s.2.1 i1 j)) (Int32.ofInt sp).toNatClampNeg (Int32.ofInt dp).toNatClampNeg (Int32.ofInt nn).toNatClampNeg))), 0, 0)) none = _
                    rw [hd, sx_nat g1 (by omega), sx_nat g2 (by omega), sx_nat g3 (by omega)]
                    dsimp only [cond]
                    rw [sx_hp_ext (s := s) (t := (s.1, sx_cpy s.2.1 i0 i1 sp.toNat dp.toNat nn.toNat, s.2.2)) rfl (fun x hx => ?_) (sx_ar_at h1).2 (fun q hq => ⟨rfl, ?_⟩) rfl]
                    · cases (sx_ar_at h1).1.symm.trans hx
                      have ef : va_cpy (fun j => Int32.ofInt (s.2.1 i0 j)) (fun j => Int32.ofInt (s.2.1 i1 j)) sp.toNat dp.toNat nn.toNat = fun j => Int32.ofInt (sx_cpy s.2.1 i0 i1 sp.toNat dp.toNat nn.toNat i1 j) := by
                        funext j
                        unfold va_cpy sx_cpy
                        rw [Nat.beq_refl]
                        dsimp only [cond]
                        split <;> rfl
                      rw [ef]
                      rfl
                    · funext j
                      show sx_cpy s.2.1 i0 i1 sp.toNat dp.toNat nn.toNat q j = s.2.1 q j
                      unfold sx_cpy
                      have : Nat.beq q i1 = false := by rw [← Bool.not_eq_true]; exact fun z => hq (Nat.eq_of_beq_eq_true z)
                      rw [this]; rfl
                · exact h.elim
              · exact h.elim
            · exact h.elim
          · split at h
            · rename_i y x r
              cases h8 : sx_le8 r 8 with
              | false => rw [h8] at h; exact h.elim
              | true =>
                rw [h8] at h
                obtain ⟨⟨hx, hy⟩, hk⟩ := h
                refine fin (pc + 3) (.inl (if x < y then y else x) :: r) s rfl ?_ hk hw
                show cond (Nat.ble (mx_cs (r.map sx_e)) 8) (some (pc + 3, ls.map sx_ed, Value.int (if Int32.ofInt x < Int32.ofInt y then Int32.ofInt y else Int32.ofInt x) :: r.map sx_e, sx_hp s, 0, 0)) none = _
                rw [Nat.ble_eq.mpr (sx_le8_ok _ _ h8)]
                dsimp only [cond]
                by_cases q : x < y
                · rw [if_pos ((sx_lt hx hy).mpr q), if_pos q]; rfl
                · rw [if_neg (fun z => q ((sx_lt hx hy).mp z)), if_neg q]; rfl
            · exact h.elim
          · split at h
            · rename_i y x r
              cases h8 : sx_le8 r 8 with
              | false => rw [h8] at h; exact h.elim
              | true =>
                rw [h8] at h
                obtain ⟨⟨hx, hy⟩, hk⟩ := h
                refine fin (pc + 3) (.inl (if y < x then y else x) :: r) s rfl ?_ hk hw
                show cond (Nat.ble (mx_cs (r.map sx_e)) 8) (some (pc + 3, ls.map sx_ed, Value.int (if Int32.ofInt y < Int32.ofInt x then Int32.ofInt y else Int32.ofInt x) :: r.map sx_e, sx_hp s, 0, 0)) none = _
                rw [Nat.ble_eq.mpr (sx_le8_ok _ _ h8)]
                dsimp only [cond]
                by_cases q : y < x
                · rw [if_pos ((sx_lt hy hx).mpr q), if_pos q]; rfl
                · rw [if_neg (fun z => q ((sx_lt hy hx).mp z)), if_neg q]; rfl
            · exact h.elim
          · split at h
            · rename_i y x r
              cases h8 : sx_le8 r 8 with
              | false => rw [h8] at h; exact h.elim
              | true =>
                rw [h8] at h
                obtain ⟨⟨hx, hy, g0, g1⟩, hk⟩ := h
                refine fin (pc + 3) r s rfl ?_ hk hw
                show cond (Nat.ble (mx_cs (r.map sx_e)) 8 && decide (0 ≤ Int32.ofInt x) && decide (Int32.ofInt x < Int32.ofInt y)) (some (pc + 3, ls.map sx_ed, r.map sx_e, sx_hp s, 0, 0)) none = _
                rw [Nat.ble_eq.mpr (sx_le8_ok _ _ h8), decide_eq_true ((sx_lt hx hy).mpr g1), decide_eq_true (by rw [sx_z0]; exact (sx_le sx_in0 hx).mpr g0)]
                rfl
            · exact h.elim
          · exact h.elim
        | false =>
          rw [h7] at h
          dsimp only [cond] at h
          unfold sx_ins at h
          split at h
          · exact h.elim
          rename_i e1 ha
          split at h
          · rename_i av rest hsp
            obtain ⟨s1, s2, s3⟩ := sx_spl_ok _ _ _ _ _ hsp
            rw [List.append_nil] at s2
            by_cases hb : (sx_le8 rest 8 && Nat.ble e1.2.1 e1.1.2.2.1) = true
            · rw [hb] at h
              simp only [Bool.and_eq_true] at hb
              obtain ⟨b2, b3⟩ := hb
              intro e' he' c n'
              cases he.symm.trans he'
              obtain ⟨z, t, c1, c2, c3, c4⟩ := hC _ _ _ _ h hw e1 ha 0 0
              have hE := cut _ _ _ _ c4
              have hst : (st.map sx_e).drop e1.2.1 = rest.map sx_e := by
                rw [← List.map_drop, s1]
              have hbb : (Nat.ble (mx_cs ((st.map sx_e).drop e1.2.1)) 8 && Nat.ble (lg_sl (((st.map sx_e).take e1.2.1).reverse)).length e1.1.2.2.1 && Nat.beq ((st.map sx_e).take e1.2.1).length e1.2.1) = true := by
                rw [hst, Nat.ble_eq.mpr (sx_le8_ok _ _ b2), ← List.map_take, ← List.map_reverse, sx_sl_len, List.length_reverse, s3, b3, List.length_map, s3, Nat.beq_refl]
                rfl
              have c1' : mx_ends sL sx mx_pg (d + 1) a 0 (lv_args 0 (((st.map sx_e).take e1.2.1).reverse)) [] (sx_hp s) 0 0 (sx_vo e1.1.2.2.2 z, sx_hp t, 0 + (t.2.2.2 - s.2.2.2), 0 + 8 * (t.2.2.2 - s.2.2.2)) := by
                rw [← List.map_take, ← List.map_reverse, ← s2]
                exact (sx_argsF_ed 0 av).symm ▸ c1
              refine sx_E_then (t := t) (ls := ls) (ls' := ls) (st' := sx_rs e1.1.2.2.2 z rest) (pc' := pc + 3) he c2 c3 (fun c n r hr => ?_) hE hw _ he c n'
              refine mx_ends_S he hq h7 ha hbb c1' ?_
              rw [hst, sx_rs_ed, Nat.zero_add, Nat.zero_add]
              exact hr
            · rw [Bool.not_eq_true] at hb
              rw [hb] at h
              exact h.elim
          · exact h.elim
      · -- a step
        obtain ⟨pc', ls', st', t, h1, h2, h3⟩ := sx_st_ok hsL hw h
        have ht : t.2.2.2 ≤ 500000 := by omega
        refine sx_E_then he h2.1 ht (fun c n r hr => ?_) (cut _ _ _ _ h3) hw
        exact mx_ends_step he hq h1 hr
end SXW
end
section
/-! ===== contracts and loops over integers ===== -/
def sx_C (sL : Nat) (sx : Nat → Int32) (d : Nat) : sx_Ca := fun a av s K => sx_E sL sx d a 0 (sx_argsF 0 av) [] s K
section SXX
variable {wr : Bool} {sL : Nat} {sx : Nat → Int32} {d mi : Nat} {e : mx_En} {R : Int → sx_S → Prop}
/-- a method that stops nowhere -/
theorem sx_meth {n : Nat} {av : List sx_V} {s : sx_S} (hsL : sL ≤ 3072) (he : mx_pg[mi]? = some e) (h : sx_wp wr sL sx e (sx_C sL sx (d + 1)) [] (fun _ _ _ => False) R n 0 (sx_argsF 0 av) [] s) : sx_C sL sx (d + 2) mi av s R :=
  sx_sound hsL he (fun _ _ _ _ q => q) (fun _ _ _ q => q.elim) n 0 _ [] s h
/-- places where it stops, with what holds there, and a number that falls -/
theorem sx_loops {n : Nat} {stop : sx_Sp} (I : Nat → Nat → sx_L → sx_S → Prop) (hsL : sL ≤ 3072) (he : mx_pg[mi]? = some e) (h : ∀ m pc ls s, I m pc ls s → sx_wp wr sL sx e (sx_C sL sx (d + 1)) stop (fun pc' ls' s' => ∃ m', m' < m ∧ I m' pc' ls' s') R n pc ls [] s) : ∀ m pc ls s, I m pc ls s → sx_E sL sx (d + 2) mi pc ls [] s R := by
  intro m
  induction m using Nat.strongRecOn with
  | _ m ih =>
    intro pc ls s hI
    refine sx_sound hsL he (fun _ _ _ _ q => q) (fun pc' ls' s' q => ?_) n pc ls [] s (h m pc ls s hI)
    obtain ⟨m', h1, h2⟩ := q
    exact ih m' h1 pc' ls' s' h2
/-- a method with such places -/
theorem sx_methL {n n' : Nat} {stop : sx_Sp} {av : List sx_V} {s : sx_S} (I : Nat → Nat → sx_L → sx_S → Prop) (hsL : sL ≤ 3072) (he : mx_pg[mi]? = some e) (h0 : sx_wp wr sL sx e (sx_C sL sx (d + 1)) stop (fun pc' ls' s' => ∃ m', I m' pc' ls' s') R n' 0 (sx_argsF 0 av) [] s) (h : ∀ m pc ls s, I m pc ls s → sx_wp wr sL sx e (sx_C sL sx (d + 1)) stop (fun pc' ls' s' => ∃ m', m' < m ∧ I m' pc' ls' s') R n pc ls [] s) : sx_C sL sx (d + 2) mi av s R :=
  sx_sound hsL he (fun _ _ _ _ q => q) (fun pc' ls' s' q => sx_loops I hsL he h q.choose pc' ls' s' q.choose_spec) n' 0 _ [] s h0
end SXX
end
section
/-! ===== how the ranges are kept; what has not changed ===== -/
theorem cx_I.mk {s : sx_S} (h0 : ∀ p k, p < 125 → (cx_rng p k).1 ≤ s.1 p k ∧ s.1 p k ≤ (cx_rng p k).2) (h1 : ∀ p j, p < 125 → (cx_arg p).1 ≤ s.2.1 p j ∧ s.2.1 p j ≤ (cx_arg p).2) (h2 : ∀ j : Nat, (j : Int) < s.1 11 6 → s.2.1 16 j ≤ s.1 11 6) : cx_I s := by
  intro b p j hp
  match b with
  | 0 => exact h0 p j hp
  | 1 => exact h1 p j hp
  | _ + 2 => exact h2 j
theorem cx_I_ufA {F : Nat → Nat → Int} {B : (Nat → Nat → Int) × (Nat → Nat → Int) × Nat} {p k : Nat} {v lo hi : Int} (hr : cx_rng p k = (lo, hi)) (h : cx_I (F, B)) (h1 : lo ≤ v) (h2 : v ≤ hi) (h3 : ∀ j : Nat, (j : Int) < sx_uf F p k v 11 6 → B.1 16 j ≤ sx_uf F p k v 11 6) : cx_I (sx_uf F p k v, B) := by
  refine cx_I.mk (fun q j hq => ?_) (fun q j hq => h 1 q j hq) h3
  show _ ≤ sx_uf F p k v q j ∧ sx_uf F p k v q j ≤ _
  rw [sx_uf_if]
  split
  · rename_i e
    obtain ⟨rfl, rfl⟩ := e
    rw [hr]
    exact ⟨h1, h2⟩
  · exact h 0 q j hq
theorem cx_I_uf {F : Nat → Nat → Int} {B : (Nat → Nat → Int) × (Nat → Nat → Int) × Nat} {p k : Nat} {v lo hi : Int} (hr : cx_rng p k = (lo, hi)) (hn : (Nat.beq p 11 && Nat.beq k 6) = false) (h : cx_I (F, B)) (h1 : lo ≤ v) (h2 : v ≤ hi) : cx_I (sx_uf F p k v, B) := by
  refine cx_I_ufA hr h h1 h2 (fun j hj => ?_)
  have e : sx_uf F p k v 11 6 = F 11 6 := by
    rw [sx_uf_if]
    refine if_neg (fun q => ?_)
    rw [← q.1, ← q.2] at hn
    exact absurd hn (by decide)
  rw [e] at hj ⊢
  exact h.ar j hj
theorem cx_I_uaA {F A : Nat → Nat → Int} {B : (Nat → Nat → Int) × Nat} {p k : Nat} {v lo hi : Int} (hr : cx_arg p = (lo, hi)) (h : cx_I (F, A, B)) (h1 : lo ≤ v) (h2 : v ≤ hi) (h3 : ∀ j : Nat, (j : Int) < F 11 6 → sx_ua A p k v 16 j ≤ F 11 6) : cx_I (F, sx_ua A p k v, B) := by
  refine cx_I.mk (fun q j hq => h 0 q j hq) (fun q j hq => ?_) h3
  show _ ≤ sx_ua A p k v q j ∧ sx_ua A p k v q j ≤ _
  by_cases e : q = p
  · subst e
    rw [sx_ua_same]
    dsimp only
    split
    · rw [hr]
      exact ⟨h1, h2⟩
    · exact h 1 q j hq
  · rw [sx_ua_ne e]
    exact h 1 q j hq
theorem cx_I_ua {F A : Nat → Nat → Int} {B : (Nat → Nat → Int) × Nat} {p k : Nat} {v lo hi : Int} (hr : cx_arg p = (lo, hi)) (hn : Nat.beq p 16 = false) (h : cx_I (F, A, B)) (h1 : lo ≤ v) (h2 : v ≤ hi) : cx_I (F, sx_ua A p k v, B) := by
  refine cx_I_uaA hr h h1 h2 (fun j hj => ?_)
  have e : sx_ua A p k v 16 = A 16 := sx_ua_ne (fun q => by rw [← q] at hn; exact absurd hn (by decide))
  rw [e]
  exact h.ar j hj
/-- the number of ARGs of a node -/
theorem cx_I_ari {F A : Nat → Nat → Int} {B : (Nat → Nat → Int) × Nat} {k : Nat} {v : Int} (h : cx_I (F, A, B)) (h1 : -2147483648 ≤ v) (h2 : v ≤ F 11 6) : cx_I (F, sx_ua A 16 k v, B) := by
  have h3 := (h.fld 11 6 (by decide) rfl).2
  dsimp only at h3
  refine cx_I_uaA (p := 16) rfl h h1 (by omega) (fun j hj => ?_)
  rw [sx_ua_same]
  dsimp only
  split
  · exact h2
  · exact h.ar j hj
theorem cx_I_cpy {F A : Nat → Nat → Int} {B : (Nat → Nat → Int) × Nat} {p0 p1 a b n : Nat} {lo hi : Int} (hr : cx_arg p1 = (lo, hi)) (hr0 : cx_arg p0 = (lo, hi)) (hn : Nat.beq p1 16 = false) (h0 : p0 < 125) (h : cx_I (F, A, B)) : cx_I (F, sx_cpy A p0 p1 a b n, B) := by
  refine cx_I.mk (fun q j hq => h 0 q j hq) (fun q j hq => ?_) (fun j hj => ?_)
  · show _ ≤ sx_cpy A p0 p1 a b n q j ∧ sx_cpy A p0 p1 a b n q j ≤ _
    unfold sx_cpy
    cases e : Nat.beq q p1 with
    | false => exact h 1 q j hq
    | true =>
      have e1 := Nat.eq_of_beq_eq_true e
      subst e1
      dsimp only [cond]
      split
      · have : (cx_arg p0).1 ≤ A p0 (a + (j - b)) ∧ A p0 (a + (j - b)) ≤ (cx_arg p0).2 := h 1 p0 (a + (j - b)) h0
        rw [hr]
        rw [hr0] at this
        exact this
      · exact h 1 q j hq
  · show sx_cpy A p0 p1 a b n 16 j ≤ _
    unfold sx_cpy
    have : Nat.beq 16 p1 = false := by
      rw [← Bool.not_eq_true]
      intro q
      rw [← Nat.eq_of_beq_eq_true q] at hn
      exact absurd hn (by decide)
    rw [this]
    exact h.ar j hj
/-- so many nodes more than ARGs since then -/
def sl (k : Nat) (s t : sx_S) : Prop := ∀ n : Nat, s.1 11 6 + (k : Int) ≤ t.1 11 6 ∧ ((n : Int) < t.1 11 6 → t.2.1 16 n + (k : Int) ≤ (if (n : Int) < s.1 11 6 then s.2.1 16 n else 0) + (t.1 11 6 - s.1 11 6))
theorem sl_refl (s : sx_S) : sl 0 s s := by
  intro n
  refine ⟨by omega, fun h => ?_⟩
  rw [if_pos h]
  omega
theorem sl_tr {a b : Nat} {s t u : sx_S} (h2 : sl b t u) (h1 : sl a s t) : sl (a + b) s u := by
  intro n
  obtain ⟨p1, p2⟩ := h1 n
  obtain ⟨q1, q2⟩ := h2 n
  refine ⟨by push_cast; omega, fun hn => ?_⟩
  have q3 := q2 hn
  by_cases ht : (n : Int) < t.1 11 6
  · rw [if_pos ht] at q3
    have p3 := p2 ht
    push_cast
    omega
  · rw [if_neg ht] at q3
    have hs : ¬ (n : Int) < s.1 11 6 := by omega
    rw [if_neg hs]
    push_cast
    omega
theorem sl_0 {k : Nat} {s t u : sx_S} (h2 : sl 0 t u) (h1 : sl k s t) : sl k s u := sl_tr h2 h1
theorem sl_1 {k : Nat} {s t u : sx_S} (h2 : sl 1 t u) (h1 : sl k s t) : sl (k + 1) s u := sl_tr h2 h1
theorem sl_weak {k : Nat} {s t : sx_S} (h : sl (k + 1) s t) : sl k s t := by
  intro n
  obtain ⟨p1, p2⟩ := h n
  push_cast at p1 p2
  exact ⟨by omega, fun hn => by have := p2 hn; omega⟩
theorem sl_same {k : Nat} {s t u : sx_S} (e1 : u.1 11 6 = t.1 11 6) (e2 : u.2.1 16 = t.2.1 16) (h : sl k s t) : sl k s u := by
  intro n
  have := h n
  rw [e1, e2]
  exact this
theorem sl_uf {k : Nat} {s : sx_S} {F : Nat → Nat → Int} {B : (Nat → Nat → Int) × (Nat → Nat → Int) × Nat} {p q : Nat} {v : Int} (hn : (Nat.beq p 11 && Nat.beq q 6) = false) (h : sl k s (F, B)) : sl k s (sx_uf F p q v, B) := by
  refine sl_same (t := (F, B)) ?_ rfl h
  show sx_uf F p q v 11 6 = F 11 6
  rw [sx_uf_if]
  refine if_neg (fun z => ?_)
  rw [← z.1, ← z.2] at hn
  exact absurd hn (by decide)
theorem sl_ua {k : Nat} {s : sx_S} {F A : Nat → Nat → Int} {B : (Nat → Nat → Int) × Nat} {p q : Nat} {v : Int} (hn : Nat.beq p 16 = false) (h : sl k s (F, A, B)) : sl k s (F, sx_ua A p q v, B) :=
  sl_same (t := (F, A, B)) rfl (sx_ua_ne (fun z => by rw [← z] at hn; exact absurd hn (by decide))) h
/-- there is room for one ARG more -/
theorem sl_room {k : Nat} {s t : sx_S} (hs : cx_I s) (h : sl (k + 1) s t) {x : Int} (h0 : 0 ≤ x) (h1 : x < t.1 11 6) : t.2.1 16 x.toNat + 1 ≤ t.1 11 6 := by
  obtain ⟨p1, p2⟩ := h x.toNat
  push_cast at p1 p2
  have p3 := p2 (by omega)
  by_cases hx : ((x.toNat : Nat) : Int) < s.1 11 6
  · rw [if_pos hx] at p3
    have := hs.ar x.toNat hx
    omega
  · rw [if_neg hx] at p3
    have := (hs.fld 11 6 (by decide) rfl).1
    omega
/-- nothing but these places has changed -/
def cx_out (W : List (Nat × Nat)) (p : Nat) : Prop := ∀ q ∈ W, p < q.1 ∨ q.2 < p
def cx_F (W : List (Nat × Nat)) (s t : sx_S) : Prop := ∀ p, (cx_out W p → t.1 p = s.1 p ∧ t.2.1 p = s.2.1 p) ∧ t.2.2 = s.2.2
def cx_has : List (Nat × Nat) → Nat → Bool
  | [], _ => false
  | q :: l, p => (Nat.ble q.1 p && Nat.ble p q.2) || cx_has l p
theorem cx_has_ok : ∀ {W : List (Nat × Nat)} {p : Nat}, cx_has W p = true → ¬ cx_out W p
  | [], p, h => by cases h
  | q :: l, p, h => by
    intro ho
    unfold cx_has at h
    rw [Bool.or_eq_true, Bool.and_eq_true] at h
    rcases h with ⟨h1, h2⟩ | h
    · have a := Nat.ble_eq.mp h1
      have b := Nat.ble_eq.mp h2
      rcases ho q List.mem_cons_self with c | c <;> omega
    · exact cx_has_ok h (fun x hx => ho x (List.mem_cons_of_mem _ hx))
def cx_hasI : List (Nat × Nat) → Nat × Nat → Bool
  | [], _ => false
  | q :: l, p => (Nat.ble q.1 p.1 && Nat.ble p.2 q.2) || cx_hasI l p
def cx_le (V W : List (Nat × Nat)) : Bool := V.all (cx_hasI W)
theorem cx_hasI_ok : ∀ {W : List (Nat × Nat)} {p : Nat × Nat} {q : Nat}, cx_hasI W p = true → cx_out W q → q < p.1 ∨ p.2 < q
  | [], p, q, h, ho => by cases h
  | x :: l, p, q, h, ho => by
    unfold cx_hasI at h
    rw [Bool.or_eq_true, Bool.and_eq_true] at h
    rcases h with ⟨h1, h2⟩ | h
    · have a := Nat.ble_eq.mp h1
      have b := Nat.ble_eq.mp h2
      rcases ho x List.mem_cons_self with c | c <;> omega
    · exact cx_hasI_ok h (fun y hy => ho y (List.mem_cons_of_mem _ hy))
theorem cx_le_ok {V W : List (Nat × Nat)} (h : cx_le V W = true) {p : Nat} (ho : cx_out W p) : cx_out V p := fun q hq => cx_hasI_ok (List.all_eq_true.mp h q hq) ho
def cx_outb : List (Nat × Nat) → Nat → Bool
  | [], _ => true
  | q :: l, p => (Nat.blt p q.1 || Nat.blt q.2 p) && cx_outb l p
theorem cx_outb_ok : ∀ {W : List (Nat × Nat)} {p : Nat}, cx_outb W p = true → cx_out W p
  | [], p, _ => fun q hq => absurd hq List.not_mem_nil
  | x :: l, p, h => by
    unfold cx_outb at h
    rw [Bool.and_eq_true, Bool.or_eq_true] at h
    intro q hq
    rcases List.mem_cons.mp hq with rfl | hq
    · rcases h.1 with c | c
      · exact Or.inl (Nat.ble_eq.mp c)
      · exact Or.inr (Nat.ble_eq.mp c)
    · exact cx_outb_ok h.2 q hq
theorem cx_F_refl (W : List (Nat × Nat)) (s : sx_S) : cx_F W s s := fun _ => ⟨fun _ => ⟨rfl, rfl⟩, rfl⟩
theorem cx_F_uf {W : List (Nat × Nat)} {s : sx_S} {F : Nat → Nat → Int} {B : (Nat → Nat → Int) × (Nat → Nat → Int) × Nat} {p k : Nat} {v : Int} (hp : cx_has W p = true) (h : cx_F W s (F, B)) : cx_F W s (sx_uf F p k v, B) := by
  intro q
  refine ⟨fun ho => ?_, (h q).2⟩
  have : q ≠ p := fun e => cx_has_ok hp (e ▸ ho)
  refine ⟨?_, ((h q).1 ho).2⟩
  show sx_uf F p k v q = _
  rw [sx_fv_ne this]
  exact ((h q).1 ho).1
theorem cx_F_ua {W : List (Nat × Nat)} {s : sx_S} {F A : Nat → Nat → Int} {B : (Nat → Nat → Int) × Nat} {p k : Nat} {v : Int} (hp : cx_has W p = true) (h : cx_F W s (F, A, B)) : cx_F W s (F, sx_ua A p k v, B) := by
  intro q
  refine ⟨fun ho => ?_, (h q).2⟩
  have : q ≠ p := fun e => cx_has_ok hp (e ▸ ho)
  refine ⟨((h q).1 ho).1, ?_⟩
  show sx_ua A p k v q = _
  rw [sx_ua_ne this]
  exact ((h q).1 ho).2
theorem cx_F_cpy {W : List (Nat × Nat)} {s : sx_S} {F A : Nat → Nat → Int} {B : (Nat → Nat → Int) × Nat} {p0 p a b n : Nat} (hp : cx_has W p = true) (h : cx_F W s (F, A, B)) : cx_F W s (F, sx_cpy A p0 p a b n, B) := by
  intro q
  refine ⟨fun ho => ?_, (h q).2⟩
  have : q ≠ p := fun e => cx_has_ok hp (e ▸ ho)
  refine ⟨((h q).1 ho).1, ?_⟩
  rw [← ((h q).1 ho).2]
  funext j
  show sx_cpy A p0 p a b n q j = A q j
  unfold sx_cpy
  have : Nat.beq q p = false := by rw [← Bool.not_eq_true]; exact fun z => this (Nat.eq_of_beq_eq_true z)
  rw [this]
  rfl
theorem cx_F_step {V W : List (Nat × Nat)} {s t u : sx_S} (h2 : cx_F V t u) (hV : cx_le V W = true) (h1 : cx_F W s t) : cx_F W s u := by
  intro q
  refine ⟨fun ho => ?_, ((h2 q).2).trans (h1 q).2⟩
  obtain ⟨a1, a2⟩ := (h2 q).1 (cx_le_ok hV ho)
  obtain ⟨b1, b2⟩ := (h1 q).1 ho
  exact ⟨a1.trans b1, a2.trans b2⟩
/-- a place that has not changed -/
theorem cx_F.same {W : List (Nat × Nat)} {s t : sx_S} (h : cx_F W s t) (p : Nat) (hp : cx_outb W p = true) : t.1 p = s.1 p ∧ t.2.1 p = s.2.1 p := (h p).1 (cx_outb_ok hp)
theorem sx_w_t (z : Int) : sx_w true z = (z + 2147483648) % 4294967296 - 2147483648 := rfl
theorem sx_w_f (z : Int) : sx_w false z = z := rfl
theorem sx_ua_if (A : Nat → Nat → Int) (p j : Nat) (v : Int) (p' j' : Nat) : sx_ua A p j v p' j' = if p' = p then (if j' = j then v else A p' j') else A p' j' := by
  by_cases h : p' = p
  · subst h
    rw [sx_ua_same, if_pos rfl]
  · rw [sx_ua_ne h, if_neg h]
theorem sl_F {k : Nat} {W : List (Nat × Nat)} {s t u : sx_S} (hF : cx_F W t u) (h1 : cx_outb W 11 = true) (h2 : cx_outb W 16 = true) (h : sl k s t) : sl k s u := sl_same (congrFun (hF.same 11 h1).1 6) (hF.same 16 h2).2 h
def slp (z : Int) (s t : sx_S) : Prop := 0 ≤ z → sl 1 s t
def slq (z a : Int) (s t : sx_S) : Prop := 0 ≤ z → a < 0 → sl 1 s t
def sla (s t : sx_S) : Prop := ∀ (k : Nat) (s0 : sx_S), sl (k + 1) s0 s → sl k s0 t
theorem sl_1p {k : Nat} {z : Int} {s t u : sx_S} (h2 : slp z t u) (hz : 0 ≤ z) (h1 : sl k s t) : sl (k + 1) s u := sl_1 (h2 hz) h1
theorem sl_a {k : Nat} {s t u : sx_S} (h2 : sla t u) (h1 : sl (k + 1) s t) : sl k s u := h2 k s h1
theorem sl_pq {p g : Int} {s t t1 t2 : sx_S} (h1 : slp p t t1) (h2 : sl 0 t1 t2) (h3 : slq g p t1 t2) (hg : 0 ≤ g) (h : sl 0 s t) (h0 : sl 0 t t1) : sl 1 s t2 := by
  by_cases hp : 0 ≤ p
  · exact sl_0 h2 (sl_1 (h1 hp) h)
  · exact sl_1 (h3 hg (by omega)) (sl_0 h0 h)
theorem sl_room0 {s t : sx_S} (hs : cx_I s) {x : Int} (h0 : 0 ≤ x) (h1 : x < t.1 11 6) (h : sl 1 s t) : t.2.1 16 x.toNat + 1 ≤ t.1 11 6 := sl_room (k := 0) hs h h0 h1
theorem sl_mknode {s t : sx_S} (h0 : 0 ≤ s.1 11 6) (h1 : t.1 11 6 = s.1 11 6 + 1) (h2 : ∀ j : Nat, t.2.1 16 j = if (j : Int) = s.1 11 6 then 0 else s.2.1 16 j) : sl 1 s t := by
  intro n
  refine ⟨by rw [h1]; exact Int.le_refl _, fun hn => ?_⟩
  rw [h1] at hn ⊢
  rw [h2 n]
  by_cases e : (n : Int) = s.1 11 6
  · rw [if_pos e, if_neg (by omega)]
    push_cast
    omega
  · rw [if_neg e, if_pos (by omega)]
    push_cast
    omega
theorem sl_mkapp {s t : sx_S} (h1 : t.1 11 6 = s.1 11 6) (h2 : ∀ j : Nat, t.2.1 16 j ≤ s.2.1 16 j + 1) : sla s t := by
  intro k s0 h n
  obtain ⟨p1, p2⟩ := h n
  push_cast at p1 p2
  have := h2 n
  rw [h1]
  refine ⟨by omega, fun hn => ?_⟩
  have := p2 hn
  omega
theorem sla_weak {s t : sx_S} (h : sl 0 s t) : sla s t := fun k s0 h0 => sl_weak (sl_0 h h0)
theorem sla_pa {z : Int} {s t u : sx_S} (h1 : sl 0 s t) (h2 : sla t u) : sla s u := fun k s0 h0 => h2 k s0 (sl_0 h1 h0)
def slz (a b : Int) (s t : sx_S) : Prop := a < 0 ∨ b < 0 → sl 0 s t
theorem sl_na {k : Nat} {x z : Int} {s t t1 t2 : sx_S} (hp : slp z t t1) (ha : sla t1 t2) (hz : slz x z t1 t2) (h0 : sl 0 t t1) (h : sl k s t) : sl k s t2 := by
  by_cases q : 0 ≤ z
  · exact ha k s (sl_1 (hp q) h)
  · exact sl_0 (hz (Or.inr (by omega))) (sl_0 h0 h)
theorem sl_cna {x p g : Int} {s t t1 t2 t3 : sx_S} (h1 : slp p t t1) (h3 : slq g p t1 t2) (ha : sla t2 t3) (hz : slz x g t2 t3) (h0 : sl 0 t t1) (h2 : sl 0 t1 t2) (h : sl 0 s t) : sl 0 s t3 := by
  by_cases q : 0 ≤ g
  · exact ha 0 s (sl_pq h1 h2 h3 q h h0)
  · exact sl_0 (hz (Or.inr (by omega))) (sl_0 h2 (sl_0 h0 h))
end
section
/-! ===== the desk: tokens, types, names, terms (leaves) ===== -/
theorem w_kind {CALL : sx_Ca} {sL : Nat} {sx : Nat → Int32} {Q : Nat → sx_L → sx_S → Prop} {R : Int → sx_S → Prop} {s : sx_S} {t0 : Int} (hI : cx_I s) (p0 : (-2147483648 ≤ t0 ∧ t0 ≤ 2147483647)) (hK : ∀ z : Int, (-2147483648 ≤ z ∧ z ≤ 2147483647) → R z s) : sx_wp true sL sx eX8_kind CALL [] Q R 400 0 (sx_argsF 0 [.inr (.inl 2), .inl t0]) [] s := by
  repeat' (first | (with_reducible intro _) | (refine And.intro ?_ ?_) | (refine hK _ ?_))
  all_goals (try dsimp only)
  repeat' (first | (with_reducible assumption) | ((with_reducible (change cx_I (sx_uf _ _ _ _, _))); refine cx_I_uf rfl rfl ?_ ?_ ?_) | ((with_reducible (change cx_I (_, sx_ua _ _ _ _, _))); refine cx_I_ua rfl rfl ?_ ?_ ?_) | ((with_reducible (change cx_I (_, sx_ua _ 16 _ _, _))); refine cx_I_ari ?_ ?_ ?_) | ((with_reducible (change cx_I (sx_uf _ 11 6 _, _))); refine cx_I_ufA rfl ?_ ?_ ?_ ?_) | (with_reducible exact cx_F_refl _ _) | ((with_reducible (change cx_F _ _ (sx_uf _ _ _ _, _))); refine cx_F_uf rfl ?_) | ((with_reducible (change cx_F _ _ (_, sx_ua _ _ _ _, _))); refine cx_F_ua rfl ?_) | ((with_reducible (change cx_I (_, sx_cpy _ _ _ _ _ _, _))); refine cx_I_cpy rfl rfl rfl (by decide) ?_) | ((with_reducible (change cx_F _ _ (_, sx_cpy _ _ _ _ _ _, _))); refine cx_F_cpy rfl ?_) | ((with_reducible (change cx_F _ _ _)); refine cx_F_step (by assumption) rfl ?_) | fail)
  all_goals (first | trivial | omega | (dsimp only at *; omega) | (simp only [sx_uf_if, sx_ua_if, sx_w_t, true_and, and_true, and_self, and_false, false_and, if_true, if_false, reduceIte] at *; omega) | (subst_vars; rfl) | (subst_vars; decide))

theorem c_kind {sL : Nat} {sx : Nat → Int32} (hsL : sL ≤ 3072) (d : Nat) (hd : 2 ≤ d) : ∀ (t0 : Int) (s : sx_S) (K : Int → sx_S → Prop), cx_I s → (-2147483648 ≤ t0 ∧ t0 ≤ 2147483647) → (∀ z : Int, (-2147483648 ≤ z ∧ z ≤ 2147483647) → K z s) → sx_C sL sx d 101 [.inr (.inl 2), .inl t0] s K := by
  intro t0 s K hI p0 hK
  obtain ⟨d, rfl⟩ : ∃ e, d = e + 2 := ⟨d - 2, by omega⟩
  exact sx_meth (wr := true) (n := 400) hsL (e := eX8_kind) rfl (w_kind (Q := fun _ _ _ => False)  hI p0 hK)

theorem w_start {CALL : sx_Ca} {sL : Nat} {sx : Nat → Int32} {Q : Nat → sx_L → sx_S → Prop} {R : Int → sx_S → Prop} {s : sx_S} {t0 : Int} (hI : cx_I s) (p0 : (-2147483648 ≤ t0 ∧ t0 ≤ 2147483647)) (hK : ∀ z : Int, (-2147483648 ≤ z ∧ z ≤ 2147483647) → R z s) : sx_wp true sL sx eX8_start CALL [] Q R 400 0 (sx_argsF 0 [.inr (.inl 2), .inl t0]) [] s := by
  repeat' (first | (with_reducible intro _) | (refine And.intro ?_ ?_) | (refine hK _ ?_))
  all_goals (try dsimp only)
  repeat' (first | (with_reducible assumption) | ((with_reducible (change cx_I (sx_uf _ _ _ _, _))); refine cx_I_uf rfl rfl ?_ ?_ ?_) | ((with_reducible (change cx_I (_, sx_ua _ _ _ _, _))); refine cx_I_ua rfl rfl ?_ ?_ ?_) | ((with_reducible (change cx_I (_, sx_ua _ 16 _ _, _))); refine cx_I_ari ?_ ?_ ?_) | ((with_reducible (change cx_I (sx_uf _ 11 6 _, _))); refine cx_I_ufA rfl ?_ ?_ ?_ ?_) | (with_reducible exact cx_F_refl _ _) | ((with_reducible (change cx_F _ _ (sx_uf _ _ _ _, _))); refine cx_F_uf rfl ?_) | ((with_reducible (change cx_F _ _ (_, sx_ua _ _ _ _, _))); refine cx_F_ua rfl ?_) | ((with_reducible (change cx_I (_, sx_cpy _ _ _ _ _ _, _))); refine cx_I_cpy rfl rfl rfl (by decide) ?_) | ((with_reducible (change cx_F _ _ (_, sx_cpy _ _ _ _ _ _, _))); refine cx_F_cpy rfl ?_) | ((with_reducible (change cx_F _ _ _)); refine cx_F_step (by assumption) rfl ?_) | fail)
  all_goals (first | trivial | omega | (dsimp only at *; omega) | (simp only [sx_uf_if, sx_ua_if, sx_w_t, true_and, and_true, and_self, and_false, false_and, if_true, if_false, reduceIte] at *; omega) | (subst_vars; rfl) | (subst_vars; decide))

theorem c_start {sL : Nat} {sx : Nat → Int32} (hsL : sL ≤ 3072) (d : Nat) (hd : 2 ≤ d) : ∀ (t0 : Int) (s : sx_S) (K : Int → sx_S → Prop), cx_I s → (-2147483648 ≤ t0 ∧ t0 ≤ 2147483647) → (∀ z : Int, (-2147483648 ≤ z ∧ z ≤ 2147483647) → K z s) → sx_C sL sx d 102 [.inr (.inl 2), .inl t0] s K := by
  intro t0 s K hI p0 hK
  obtain ⟨d, rfl⟩ : ∃ e, d = e + 2 := ⟨d - 2, by omega⟩
  exact sx_meth (wr := true) (n := 400) hsL (e := eX8_start) rfl (w_start (Q := fun _ _ _ => False)  hI p0 hK)

theorem w_tyclear {CALL : sx_Ca} {sL : Nat} {sx : Nat → Int32} {Q : Nat → sx_L → sx_S → Prop} {R : Int → sx_S → Prop} {s : sx_S} (hI : cx_I s) (hK : ∀ (z : Int) (t : sx_S), cx_I t → cx_F [(8, 10)] s t → (True) → R z t) : sx_wp true sL sx eX9_clear CALL [] Q R 400 0 (sx_argsF 0 [.inr (.inl 8)]) [] s := by
  repeat' (first | (with_reducible intro _) | (refine And.intro ?_ ?_) | (refine hK _ _ ?_ ?_ ?_))
  all_goals (try dsimp only)
  repeat' (first | (with_reducible assumption) | ((with_reducible (change cx_I (sx_uf _ _ _ _, _))); refine cx_I_uf rfl rfl ?_ ?_ ?_) | ((with_reducible (change cx_I (_, sx_ua _ _ _ _, _))); refine cx_I_ua rfl rfl ?_ ?_ ?_) | ((with_reducible (change cx_I (_, sx_ua _ 16 _ _, _))); refine cx_I_ari ?_ ?_ ?_) | ((with_reducible (change cx_I (sx_uf _ 11 6 _, _))); refine cx_I_ufA rfl ?_ ?_ ?_ ?_) | (with_reducible exact cx_F_refl _ _) | ((with_reducible (change cx_F _ _ (sx_uf _ _ _ _, _))); refine cx_F_uf rfl ?_) | ((with_reducible (change cx_F _ _ (_, sx_ua _ _ _ _, _))); refine cx_F_ua rfl ?_) | ((with_reducible (change cx_I (_, sx_cpy _ _ _ _ _ _, _))); refine cx_I_cpy rfl rfl rfl (by decide) ?_) | ((with_reducible (change cx_F _ _ (_, sx_cpy _ _ _ _ _ _, _))); refine cx_F_cpy rfl ?_) | ((with_reducible (change cx_F _ _ _)); refine cx_F_step (by assumption) rfl ?_) | fail)
  all_goals (first | trivial | omega | (dsimp only at *; omega) | (simp only [sx_uf_if, sx_ua_if, sx_w_t, true_and, and_true, and_self, and_false, false_and, if_true, if_false, reduceIte] at *; omega) | (subst_vars; rfl) | (subst_vars; decide))

theorem c_tyclear {sL : Nat} {sx : Nat → Int32} (hsL : sL ≤ 3072) (d : Nat) (hd : 2 ≤ d) : ∀ (s : sx_S) (K : Int → sx_S → Prop), cx_I s → (∀ (z : Int) (t : sx_S), cx_I t → cx_F [(8, 10)] s t → (True) → K z t) → sx_C sL sx d 115 [.inr (.inl 8)] s K := by
  intro  s K hI  hK
  obtain ⟨d, rfl⟩ : ∃ e, d = e + 2 := ⟨d - 2, by omega⟩
  exact sx_meth (wr := true) (n := 400) hsL (e := eX9_clear) rfl (w_tyclear (Q := fun _ _ _ => False)  hI  hK)

theorem w_isArrow {CALL : sx_Ca} {sL : Nat} {sx : Nat → Int32} {Q : Nat → sx_L → sx_S → Prop} {R : Int → sx_S → Prop} {s : sx_S} {t0 : Int} (hI : cx_I s) (p0 : (-2147483648 ≤ t0 ∧ t0 ≤ 2147483647)) (hK : ∀ z : Int, (0 ≤ z ∧ z ≤ 1) → R z s) : sx_wp true sL sx eX9_isArrow CALL [] Q R 400 0 (sx_argsF 0 [.inr (.inl 8), .inl t0]) [] s := by
  repeat' (first | (with_reducible intro _) | (refine And.intro ?_ ?_) | (refine hK _ ?_))
  all_goals (try dsimp only)
  repeat' (first | (with_reducible assumption) | ((with_reducible (change cx_I (sx_uf _ _ _ _, _))); refine cx_I_uf rfl rfl ?_ ?_ ?_) | ((with_reducible (change cx_I (_, sx_ua _ _ _ _, _))); refine cx_I_ua rfl rfl ?_ ?_ ?_) | ((with_reducible (change cx_I (_, sx_ua _ 16 _ _, _))); refine cx_I_ari ?_ ?_ ?_) | ((with_reducible (change cx_I (sx_uf _ 11 6 _, _))); refine cx_I_ufA rfl ?_ ?_ ?_ ?_) | (with_reducible exact cx_F_refl _ _) | ((with_reducible (change cx_F _ _ (sx_uf _ _ _ _, _))); refine cx_F_uf rfl ?_) | ((with_reducible (change cx_F _ _ (_, sx_ua _ _ _ _, _))); refine cx_F_ua rfl ?_) | ((with_reducible (change cx_I (_, sx_cpy _ _ _ _ _ _, _))); refine cx_I_cpy rfl rfl rfl (by decide) ?_) | ((with_reducible (change cx_F _ _ (_, sx_cpy _ _ _ _ _ _, _))); refine cx_F_cpy rfl ?_) | ((with_reducible (change cx_F _ _ _)); refine cx_F_step (by assumption) rfl ?_) | fail)
  all_goals (first | trivial | omega | (dsimp only at *; omega) | (simp only [sx_uf_if, sx_ua_if, sx_w_t, true_and, and_true, and_self, and_false, false_and, if_true, if_false, reduceIte] at *; omega) | (subst_vars; rfl) | (subst_vars; decide))

theorem c_isArrow {sL : Nat} {sx : Nat → Int32} (hsL : sL ≤ 3072) (d : Nat) (hd : 2 ≤ d) : ∀ (t0 : Int) (s : sx_S) (K : Int → sx_S → Prop), cx_I s → (-2147483648 ≤ t0 ∧ t0 ≤ 2147483647) → (∀ z : Int, (0 ≤ z ∧ z ≤ 1) → K z s) → sx_C sL sx d 116 [.inr (.inl 8), .inl t0] s K := by
  intro t0 s K hI p0 hK
  obtain ⟨d, rfl⟩ : ∃ e, d = e + 2 := ⟨d - 2, by omega⟩
  exact sx_meth (wr := true) (n := 400) hsL (e := eX9_isArrow) rfl (w_isArrow (Q := fun _ _ _ => False)  hI p0 hK)

theorem w_tyfrom {CALL : sx_Ca} {sL : Nat} {sx : Nat → Int32} {Q : Nat → sx_L → sx_S → Prop} {R : Int → sx_S → Prop} {s : sx_S} {t0 : Int} (hI : cx_I s) (p0 : (-2147483648 ≤ t0 ∧ t0 ≤ 2147483647)) (hK : ∀ z : Int, (-2147483648 ≤ z ∧ z ≤ 2147483647) → R z s) : sx_wp true sL sx eX9_from CALL [] Q R 400 0 (sx_argsF 0 [.inr (.inl 8), .inl t0]) [] s := by
  repeat' (first | (with_reducible intro _) | (refine And.intro ?_ ?_) | (refine hK _ ?_))
  all_goals (try dsimp only)
  repeat' (first | (with_reducible assumption) | ((with_reducible (change cx_I (sx_uf _ _ _ _, _))); refine cx_I_uf rfl rfl ?_ ?_ ?_) | ((with_reducible (change cx_I (_, sx_ua _ _ _ _, _))); refine cx_I_ua rfl rfl ?_ ?_ ?_) | ((with_reducible (change cx_I (_, sx_ua _ 16 _ _, _))); refine cx_I_ari ?_ ?_ ?_) | ((with_reducible (change cx_I (sx_uf _ 11 6 _, _))); refine cx_I_ufA rfl ?_ ?_ ?_ ?_) | (with_reducible exact cx_F_refl _ _) | ((with_reducible (change cx_F _ _ (sx_uf _ _ _ _, _))); refine cx_F_uf rfl ?_) | ((with_reducible (change cx_F _ _ (_, sx_ua _ _ _ _, _))); refine cx_F_ua rfl ?_) | ((with_reducible (change cx_I (_, sx_cpy _ _ _ _ _ _, _))); refine cx_I_cpy rfl rfl rfl (by decide) ?_) | ((with_reducible (change cx_F _ _ (_, sx_cpy _ _ _ _ _ _, _))); refine cx_F_cpy rfl ?_) | ((with_reducible (change cx_F _ _ _)); refine cx_F_step (by assumption) rfl ?_) | fail)
  all_goals (first | trivial | omega | (dsimp only at *; omega) | (simp only [sx_uf_if, sx_ua_if, sx_w_t, true_and, and_true, and_self, and_false, false_and, if_true, if_false, reduceIte] at *; omega) | (subst_vars; rfl) | (subst_vars; decide))

theorem c_tyfrom {sL : Nat} {sx : Nat → Int32} (hsL : sL ≤ 3072) (d : Nat) (hd : 2 ≤ d) : ∀ (t0 : Int) (s : sx_S) (K : Int → sx_S → Prop), cx_I s → (-2147483648 ≤ t0 ∧ t0 ≤ 2147483647) → (∀ z : Int, (-2147483648 ≤ z ∧ z ≤ 2147483647) → K z s) → sx_C sL sx d 117 [.inr (.inl 8), .inl t0] s K := by
  intro t0 s K hI p0 hK
  obtain ⟨d, rfl⟩ : ∃ e, d = e + 2 := ⟨d - 2, by omega⟩
  exact sx_meth (wr := true) (n := 400) hsL (e := eX9_from) rfl (w_tyfrom (Q := fun _ _ _ => False)  hI p0 hK)

theorem w_tyto {CALL : sx_Ca} {sL : Nat} {sx : Nat → Int32} {Q : Nat → sx_L → sx_S → Prop} {R : Int → sx_S → Prop} {s : sx_S} {t0 : Int} (hI : cx_I s) (p0 : (-2147483648 ≤ t0 ∧ t0 ≤ 2147483647)) (hK : ∀ z : Int, (-2147483648 ≤ z ∧ z ≤ 2147483647) → R z s) : sx_wp true sL sx eX9_to CALL [] Q R 400 0 (sx_argsF 0 [.inr (.inl 8), .inl t0]) [] s := by
  repeat' (first | (with_reducible intro _) | (refine And.intro ?_ ?_) | (refine hK _ ?_))
  all_goals (try dsimp only)
  repeat' (first | (with_reducible assumption) | ((with_reducible (change cx_I (sx_uf _ _ _ _, _))); refine cx_I_uf rfl rfl ?_ ?_ ?_) | ((with_reducible (change cx_I (_, sx_ua _ _ _ _, _))); refine cx_I_ua rfl rfl ?_ ?_ ?_) | ((with_reducible (change cx_I (_, sx_ua _ 16 _ _, _))); refine cx_I_ari ?_ ?_ ?_) | ((with_reducible (change cx_I (sx_uf _ 11 6 _, _))); refine cx_I_ufA rfl ?_ ?_ ?_ ?_) | (with_reducible exact cx_F_refl _ _) | ((with_reducible (change cx_F _ _ (sx_uf _ _ _ _, _))); refine cx_F_uf rfl ?_) | ((with_reducible (change cx_F _ _ (_, sx_ua _ _ _ _, _))); refine cx_F_ua rfl ?_) | ((with_reducible (change cx_I (_, sx_cpy _ _ _ _ _ _, _))); refine cx_I_cpy rfl rfl rfl (by decide) ?_) | ((with_reducible (change cx_F _ _ (_, sx_cpy _ _ _ _ _ _, _))); refine cx_F_cpy rfl ?_) | ((with_reducible (change cx_F _ _ _)); refine cx_F_step (by assumption) rfl ?_) | fail)
  all_goals (first | trivial | omega | (dsimp only at *; omega) | (simp only [sx_uf_if, sx_ua_if, sx_w_t, true_and, and_true, and_self, and_false, false_and, if_true, if_false, reduceIte] at *; omega) | (subst_vars; rfl) | (subst_vars; decide))

theorem c_tyto {sL : Nat} {sx : Nat → Int32} (hsL : sL ≤ 3072) (d : Nat) (hd : 2 ≤ d) : ∀ (t0 : Int) (s : sx_S) (K : Int → sx_S → Prop), cx_I s → (-2147483648 ≤ t0 ∧ t0 ≤ 2147483647) → (∀ z : Int, (-2147483648 ≤ z ∧ z ≤ 2147483647) → K z s) → sx_C sL sx d 118 [.inr (.inl 8), .inl t0] s K := by
  intro t0 s K hI p0 hK
  obtain ⟨d, rfl⟩ : ∃ e, d = e + 2 := ⟨d - 2, by omega⟩
  exact sx_meth (wr := true) (n := 400) hsL (e := eX9_to) rfl (w_tyto (Q := fun _ _ _ => False)  hI p0 hK)

theorem w_arrow {CALL : sx_Ca} {sL : Nat} {sx : Nat → Int32} {Q : Nat → sx_L → sx_S → Prop} {R : Int → sx_S → Prop} {s : sx_S} {t0 t1 : Int} (hI : cx_I s) (p0 : (-2147483648 ≤ t0 ∧ t0 ≤ 2147483647)) (p1 : (-2147483648 ≤ t1 ∧ t1 ≤ 2147483647)) (hK : ∀ (z : Int) (t : sx_S), cx_I t → cx_F [(8, 10)] s t → (-2147483648 ≤ z ∧ z ≤ 2147483647) → R z t) (hQ2 : ∀ (x1 x2 x3 : Int) (t : sx_S), cx_I t → cx_F [(8, 10)] s t → (-2147483648 ≤ x1 ∧ x1 ≤ 2147483647) → (-2147483648 ≤ x2 ∧ x2 ≤ 2147483647) → (2 ≤ x3 ∧ x3 ≤ 256) → Q 2 [(0, .inr (.inl 8)), (1, .inl x1), (2, .inl x2), (3, .inl x3)] t) : sx_wp true sL sx eX9_arrow CALL [(2, [0, 1, 2, 3])] Q R 400 0 (sx_argsF 0 [.inr (.inl 8), .inl t0, .inl t1]) [] s := by
  repeat' (first | (with_reducible intro _) | (refine And.intro ?_ ?_) | (refine hK _ _ ?_ ?_ ?_) | (refine hQ2 _ _ _ _ ?_ ?_ ?_ ?_ ?_))
  all_goals (try dsimp only)
  repeat' (first | (with_reducible assumption) | ((with_reducible (change cx_I (sx_uf _ _ _ _, _))); refine cx_I_uf rfl rfl ?_ ?_ ?_) | ((with_reducible (change cx_I (_, sx_ua _ _ _ _, _))); refine cx_I_ua rfl rfl ?_ ?_ ?_) | ((with_reducible (change cx_I (_, sx_ua _ 16 _ _, _))); refine cx_I_ari ?_ ?_ ?_) | ((with_reducible (change cx_I (sx_uf _ 11 6 _, _))); refine cx_I_ufA rfl ?_ ?_ ?_ ?_) | (with_reducible exact cx_F_refl _ _) | ((with_reducible (change cx_F _ _ (sx_uf _ _ _ _, _))); refine cx_F_uf rfl ?_) | ((with_reducible (change cx_F _ _ (_, sx_ua _ _ _ _, _))); refine cx_F_ua rfl ?_) | ((with_reducible (change cx_I (_, sx_cpy _ _ _ _ _ _, _))); refine cx_I_cpy rfl rfl rfl (by decide) ?_) | ((with_reducible (change cx_F _ _ (_, sx_cpy _ _ _ _ _ _, _))); refine cx_F_cpy rfl ?_) | ((with_reducible (change cx_F _ _ _)); refine cx_F_step (by assumption) rfl ?_) | fail)
  all_goals (first | trivial | omega | (dsimp only at *; omega) | (simp only [sx_uf_if, sx_ua_if, sx_w_t, true_and, and_true, and_self, and_false, false_and, if_true, if_false, reduceIte] at *; omega) | (subst_vars; rfl) | (subst_vars; decide))

theorem w_arrow_2 {CALL : sx_Ca} {sL : Nat} {sx : Nat → Int32} {Q : Nat → sx_L → sx_S → Prop} {R : Int → sx_S → Prop} {s : sx_S} {t0 t1 : Int} (hI : cx_I s) (p0 : (-2147483648 ≤ t0 ∧ t0 ≤ 2147483647)) (p1 : (-2147483648 ≤ t1 ∧ t1 ≤ 2147483647)) (hK : ∀ (z : Int) (t : sx_S), cx_I t → cx_F [(8, 10)] s t → (-2147483648 ≤ z ∧ z ≤ 2147483647) → R z t) {t : sx_S} (hJ : cx_I t) (hF : cx_F [(8, 10)] s t) {x1 x2 x3 : Int} {mm : Nat} (hm : mm = 17179869184 + (2147483647 - x3).toNat) (i0 : (-2147483648 ≤ x1 ∧ x1 ≤ 2147483647)) (i1 : (-2147483648 ≤ x2 ∧ x2 ≤ 2147483647)) (i2 : (2 ≤ x3 ∧ x3 ≤ 256)) (hQ2 : ∀ (x1 x2 x3 : Int) (t : sx_S), cx_I t → cx_F [(8, 10)] s t → (-2147483648 ≤ x1 ∧ x1 ≤ 2147483647) → (-2147483648 ≤ x2 ∧ x2 ≤ 2147483647) → (2 ≤ x3 ∧ x3 ≤ 256) → (17179869184 + (2147483647 - x3).toNat < mm) → Q 2 [(0, .inr (.inl 8)), (1, .inl x1), (2, .inl x2), (3, .inl x3)] t) : sx_wp true sL sx eX9_arrow CALL [(2, [0, 1, 2, 3])] Q R 400 2 [(0, .inr (.inl 8)), (1, .inl x1), (2, .inl x2), (3, .inl x3)] [] t := by
  repeat' (first | (with_reducible intro _) | (refine And.intro ?_ ?_) | (refine hK _ _ ?_ ?_ ?_) | (refine hQ2 _ _ _ _ ?_ ?_ ?_ ?_ ?_ ?_))
  all_goals (try dsimp only)
  repeat' (first | (with_reducible assumption) | ((with_reducible (change cx_I (sx_uf _ _ _ _, _))); refine cx_I_uf rfl rfl ?_ ?_ ?_) | ((with_reducible (change cx_I (_, sx_ua _ _ _ _, _))); refine cx_I_ua rfl rfl ?_ ?_ ?_) | ((with_reducible (change cx_I (_, sx_ua _ 16 _ _, _))); refine cx_I_ari ?_ ?_ ?_) | ((with_reducible (change cx_I (sx_uf _ 11 6 _, _))); refine cx_I_ufA rfl ?_ ?_ ?_ ?_) | (with_reducible exact cx_F_refl _ _) | ((with_reducible (change cx_F _ _ (sx_uf _ _ _ _, _))); refine cx_F_uf rfl ?_) | ((with_reducible (change cx_F _ _ (_, sx_ua _ _ _ _, _))); refine cx_F_ua rfl ?_) | ((with_reducible (change cx_I (_, sx_cpy _ _ _ _ _ _, _))); refine cx_I_cpy rfl rfl rfl (by decide) ?_) | ((with_reducible (change cx_F _ _ (_, sx_cpy _ _ _ _ _ _, _))); refine cx_F_cpy rfl ?_) | ((with_reducible (change cx_F _ _ _)); refine cx_F_step (by assumption) rfl ?_) | fail)
  all_goals (first | trivial | omega | (dsimp only at *; omega) | (simp only [sx_uf_if, sx_ua_if, sx_w_t, true_and, and_true, and_self, and_false, false_and, if_true, if_false, reduceIte] at *; omega) | (subst_vars; rfl) | (subst_vars; decide))

theorem c_arrow {sL : Nat} {sx : Nat → Int32} (hsL : sL ≤ 3072) (d : Nat) (hd : 2 ≤ d) : ∀ (t0 t1 : Int) (s : sx_S) (K : Int → sx_S → Prop), cx_I s → (-2147483648 ≤ t0 ∧ t0 ≤ 2147483647) → (-2147483648 ≤ t1 ∧ t1 ≤ 2147483647) → (∀ (z : Int) (t : sx_S), cx_I t → cx_F [(8, 10)] s t → (-2147483648 ≤ z ∧ z ≤ 2147483647) → K z t) → sx_C sL sx d 119 [.inr (.inl 8), .inl t0, .inl t1] s K := by
  intro t0 t1 s K hI p0 p1 hK
  obtain ⟨d, rfl⟩ : ∃ e, d = e + 2 := ⟨d - 2, by omega⟩
  refine sx_methL (wr := true) (n := 400) (n' := 400) (stop := [(2, [0, 1, 2, 3])]) (fun n pc ls u => (pc = 2 ∧ ∃ (x1 x2 x3 : Int), ls = [(0, .inr (.inl 8)), (1, .inl x1), (2, .inl x2), (3, .inl x3)] ∧ cx_I u ∧ cx_F [(8, 10)] s u ∧ (-2147483648 ≤ x1 ∧ x1 ≤ 2147483647) ∧ (-2147483648 ≤ x2 ∧ x2 ≤ 2147483647) ∧ (2 ≤ x3 ∧ x3 ≤ 256) ∧ n = 17179869184 + (2147483647 - x3).toNat)) hsL (e := eX9_arrow) rfl ?_ ?_
  · exact w_arrow  hI p0 p1 hK (fun x1 x2 x3 u j1 j2 i0 i1 i2 => ⟨_, ⟨rfl, x1, x2, x3, rfl, j1, j2, i0, i1, i2, rfl⟩⟩)
  · rintro n pc ls u (⟨rfl, x1, x2, x3, rfl, j1, j2, i0, i1, i2, rfl⟩)
    · exact w_arrow_2  hI p0 p1 hK j1 j2 rfl i0 i1 i2 (fun x1 x2 x3 u j1 j2 i0 i1 i2 hm => ⟨_, hm, ⟨rfl, x1, x2, x3, rfl, j1, j2, i0, i1, i2, rfl⟩⟩)
end
