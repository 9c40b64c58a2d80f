/-! ===== WHAT HOLDS OF THE CELLS at all times: ranges of fields, ranges of what arrays hold ===== -/
def cx_tab : List (Nat × Nat × Int × Int) := [(0, 1, 0, 240), (0, 2, 0, 1), (2, 4, 0, 240), (2, 5, 0, 240), (8, 2, 2, 256), (11, 6, 0, 1024), (11, 8, 0, 512), (18, 9, 0, 21), (18, 10, 0, 4), (19, 2, 0, 8), (22, 2, 0, 5), (29, 3, 0, 1024), (33, 6, 0, 32), (39, 6, 0, 512), (46, 6, 0, 512), (56, 6, 0, 512), (55, 10, 0, 1000000000)]
def cx_atab : List (Nat × Int × Int) := [(1, 0, 255), (3, 0, 255), (5, 0, 239), (6, 0, 240), (14, -1, 1023), (15, -1, 1023), (35, 0, 4)]
def cx_tabR : List (Nat × Nat × Int × Int) := [(66, 1, 0, 240), (66, 3, 0, 240), (66, 7, 0, 241), (66, 8, 0, 1), (66, 9, 0, 6000), (66, 12, 0, 600), (66, 24, 0, 60), (66, 34, 0, 60), (66, 37, 0, 1), (66, 42, 0, 8), (66, 45, 0, 5), (66, 47, 0, 4), (66, 50, 0, 60000), (66, 56, 0, 120000), (66, 58, 0, 400000), (66, 61, 0, 3000), (66, 64, 0, 20000), (66, 71, 0, 400000), (66, 75, 0, 60000), (66, 76, 0, 120000), (66, 77, 0, 400000), (66, 78, 0, 1), (66, 83, 0, 20000), (66, 86, 0, 4001), (66, 89, 0, 1)]
def cx_atabR : List (Nat × Int × Int) := [(67, 0, 255), (68, 0, 255), (70, 0, 240), (71, 0, 240), (72, 0, 5999), (73, 0, 5999), (75, 0, 241), (76, 0, 5999), (77, 0, 241), (79, -1, 241), (80, -1, 599), (81, -1, 599), (83, 0, 3), (84, -1, 5999), (86, 0, 241), (87, 0, 5999), (88, 0, 241), (90, -1, 599), (91, -1, 599), (92, 0, 241), (93, 0, 241), (94, 0, 399999), (95, 0, 241), (96, 0, 5999), (97, 0, 241), (98, 0, 59999), (99, 0, 59999), (100, 0, 3), (102, -1, 59999), (103, -1, 59999), (104, 0, 120000), (106, 0, 5999), (108, 0, 4), (109, 0, 20000), (110, 0, 5999), (111, 0, 1), (112, 0, 120000), (113, 0, 59999), (114, -1, 399999), (117, -1, 399999), (119, 0, 1), (120, 0, 20000), (121, 0, 3), (123, 0, 5999), (124, 0, 1)]
def cx_lk1 : List (Nat × Nat × Int × Int) → Nat → Nat → Int × Int
  | [], _, _ => (-2147483648, 2147483647)
  | q :: l, p, k => cond (Nat.beq q.1 p && Nat.beq q.2.1 k) q.2.2 (cx_lk1 l p k)
def cx_lk2 : List (Nat × Int × Int) → Nat → Int × Int
  | [], _ => (-2147483648, 2147483647)
  | q :: l, p => cond (Nat.beq q.1 p) q.2 (cx_lk2 l p)
def cx_rng (p k : Nat) : Int × Int := cond (Nat.blt p 66) (cx_lk1 cx_tab p k) (cx_lk1 cx_tabR p k)
def cx_arg (p : Nat) : Int × Int := cond (Nat.blt p 66) (cx_lk2 cx_atab p) (cx_lk2 cx_atabR p)
/-- fields and arrays lie in their ranges; no node has more ARGs than there are nodes -/
def cx_at (b p j : Nat) (s : sx_S) : Prop := match b with
  | 0 => (cx_rng p j).1 ≤ s.1 p j ∧ s.1 p j ≤ (cx_rng p j).2
  | 1 => (cx_arg p).1 ≤ s.2.1 p j ∧ s.2.1 p j ≤ (cx_arg p).2
  | _ => (j : Int) < s.1 11 6 → s.2.1 16 j ≤ s.1 11 6
def cx_I (s : sx_S) : Prop := ∀ (b p j : Nat), p < 125 → cx_at b p j s
theorem cx_I.fld {s : sx_S} (h : cx_I s) {lo hi : Int} (p k : Nat) (hp : p < 125) (hr : cx_rng p k = (lo, hi)) : lo ≤ s.1 p k ∧ s.1 p k ≤ hi := by
  have : (cx_rng p k).1 ≤ s.1 p k ∧ s.1 p k ≤ (cx_rng p k).2 := h 0 p k hp
  rw [hr] at this
  exact this
theorem cx_I.arr {s : sx_S} (h : cx_I s) {lo hi : Int} (p : Nat) (hp : p < 125) (hr : cx_arg p = (lo, hi)) : ∀ j, lo ≤ s.2.1 p j ∧ s.2.1 p j ≤ hi := by
  intro j
  have : (cx_arg p).1 ≤ s.2.1 p j ∧ s.2.1 p j ≤ (cx_arg p).2 := h 1 p j hp
  rw [hr] at this
  exact this
theorem cx_I.ar {s : sx_S} (h : cx_I s) (j : Nat) : (j : Int) < s.1 11 6 → s.2.1 16 j ≤ s.1 11 6 := h 2 0 j (by decide)
