/-! ===== the other calls on fresh objects, and the claim for scripts of one call ===== -/
theorem mx_ends_ct {sL : Nat} {sx : Nat → Int32} {pg : List mx_En} {d mi : Nat} {r : Option Value × List va_E × Nat × Nat} {e : mx_En} (he : pg[mi]? = some e) (n : Nat) (x : mx_Cf) (b : Bool) (p q : Nat) (y : List (Nat × Value) × List Value × List va_E × Nat × Nat) (h : mx_go sL sx e.2.2.2 n x = some (cond b p q, y)) (hb : b = true) (k : mx_ends sL sx pg d mi p y.1 y.2.1 y.2.2.1 y.2.2.2.1 y.2.2.2.2 r) : mx_ends sL sx pg d mi x.1 x.2.1 x.2.2.1 x.2.2.2.1 x.2.2.2.2.1 x.2.2.2.2.2 r := by
  subst hb
  exact mx_ends_go he n x (p, y) h k
theorem mx_ends_cf {sL : Nat} {sx : Nat → Int32} {pg : List mx_En} {d mi : Nat} {r : Option Value × List va_E × Nat × Nat} {e : mx_En} (he : pg[mi]? = some e) (n : Nat) (x : mx_Cf) (b : Bool) (p q : Nat) (y : List (Nat × Value) × List Value × List va_E × Nat × Nat) (h : mx_go sL sx e.2.2.2 n x = some (cond b p q, y)) (hb : b = false) (k : mx_ends sL sx pg d mi q y.1 y.2.1 y.2.2.1 y.2.2.2.1 y.2.2.2.2 r) : mx_ends sL sx pg d mi x.1 x.2.1 x.2.2.1 x.2.2.2.1 x.2.2.2.2.1 x.2.2.2.2.2 r := by
  subst hb
  exact mx_ends_go he n x (q, y) h k
set_option maxRecDepth 100000 in
theorem p1_toldX (sL : Nat) (sx : Nat → Int32) (v : Int32) : mx_ends sL sx mx_pg 2047 22 0 [(0, .ref 0), (1, .int v)] [] (p1_D ++ p1_M) 0 0 (some (.int (-1)), p1_D ++ p1_M, 0, 0) := by
  have he : mx_pg[22]? = some eX11_told := rfl
  by_cases h0 : v = 0
  · subst h0; exact ⟨100, rfl⟩
  by_cases h1 : v = 1
  · subst h1; exact ⟨100, rfl⟩
  refine mx_ends_ct he 2 (0, [(0, .ref 0), (1, .int v)], [], p1_D ++ p1_M, 0, 0) (decide (v ≠ 0)) 9 4 ([(0, .ref 0), (1, .int v)], [], p1_D ++ p1_M, 0, 0) rfl (decide_eq_true h0) ?_
  refine mx_ends_ct he 3 (9, [(0, .ref 0), (1, .int v)], [], p1_D ++ p1_M, 0, 0) (decide (v ≠ 1)) 21 14 ([(0, .ref 0), (1, .int v)], [], p1_D ++ p1_M, 0, 0) rfl (decide_eq_true h1) ?_
  refine mx_ends_go he 1 (21, [(0, .ref 0), (1, .int v)], [], p1_D ++ p1_M, 0, 0) (22, [(0, .ref 0), (1, .int v)], [.int (-1)], p1_D ++ p1_M, 0, 0) rfl ?_
  exact mx_ends_iret he rfl rfl
set_option maxRecDepth 100000 in
theorem p1_toldM (sL : Nat) (sx : Nat → Int32) (v : Int32) : mx_ends sL sx mx_pg 2047 39 0 [(0, .ref 66), (1, .int v)] [] (p1_D ++ p1_M) 0 0 (some (.int (-1)), p1_D ++ p1_M, 0, 0) := by
  have he : mx_pg[39]? = some eX12_told := rfl
  by_cases h0 : v = 0
  · subst h0; exact ⟨100, rfl⟩
  by_cases h1 : v = 1
  · subst h1; exact ⟨100, rfl⟩
  refine mx_ends_ct he 2 (0, [(0, .ref 66), (1, .int v)], [], p1_D ++ p1_M, 0, 0) (decide (v ≠ 0)) 11 4 ([(0, .ref 66), (1, .int v)], [], p1_D ++ p1_M, 0, 0) rfl (decide_eq_true h0) ?_
  refine mx_ends_ct he 3 (11, [(0, .ref 66), (1, .int v)], [], p1_D ++ p1_M, 0, 0) (decide (v ≠ 1)) 23 16 ([(0, .ref 66), (1, .int v)], [], p1_D ++ p1_M, 0, 0) rfl (decide_eq_true h1) ?_
  refine mx_ends_go he 1 (23, [(0, .ref 66), (1, .int v)], [], p1_D ++ p1_M, 0, 0) (24, [(0, .ref 66), (1, .int v)], [.int (-1)], p1_D ++ p1_M, 0, 0) rfl ?_
  exact mx_ends_iret he rfl rfl
set_option maxRecDepth 100000 in
theorem p1_loadXn (sL : Nat) (sx : Nat → Int32) (v : Int32) (hv : v ≠ 0) : mx_ends sL sx mx_pg 2047 21 0 [(0, .ref 0), (1, .int v)] [] (p1_D ++ p1_M) 0 0 (some (.int (-1)), p1_D ++ p1_M, 0, 0) := by
  have he : mx_pg[21]? = some eX11_load := rfl
  have tail : mx_ends sL sx mx_pg 2047 21 12 [(0, .ref 0), (1, .int v)] [] (p1_D ++ p1_M) 0 0 (some (.int (-1)), p1_D ++ p1_M, 0, 0) := by
    refine mx_ends_go he 1 (12, [(0, .ref 0), (1, .int v)], [], p1_D ++ p1_M, 0, 0) (13, [(0, .ref 0), (1, .int v)], [.int (-1)], p1_D ++ p1_M, 0, 0) rfl ?_
    exact mx_ends_iret he rfl rfl
  by_cases h0 : v < 0
  · exact mx_ends_ct he 2 (0, [(0, .ref 0), (1, .int v)], [], p1_D ++ p1_M, 0, 0) (decide (v < 0)) 12 4 ([(0, .ref 0), (1, .int v)], [], p1_D ++ p1_M, 0, 0) rfl (decide_eq_true h0) tail
  have h1 : ¬ v ≤ 0 := fun q => by
    rcases Int32.lt_or_eq_of_le q with q | q
    · exact h0 q
    · exact hv q
  refine mx_ends_cf he 2 (0, [(0, .ref 0), (1, .int v)], [], p1_D ++ p1_M, 0, 0) (decide (v < 0)) 12 4 ([(0, .ref 0), (1, .int v)], [], p1_D ++ p1_M, 0, 0) rfl (decide_eq_false h0) ?_
  exact mx_ends_cf he 4 (4, [(0, .ref 0), (1, .int v)], [], p1_D ++ p1_M, 0, 0) (decide (v ≤ 0)) 14 12 ([(0, .ref 0), (1, .int v)], [], p1_D ++ p1_M, 0, 0) rfl (decide_eq_false h1) tail
set_option maxRecDepth 100000 in
theorem p1_loadMn (sL : Nat) (sx : Nat → Int32) (v : Int32) (hv : v ≠ 0) : mx_ends sL sx mx_pg 2047 38 0 [(0, .ref 66), (1, .int v)] [] (p1_D ++ p1_M) 0 0 (some (.int (-1)), p1_D ++ p1_M, 0, 0) := by
  have he : mx_pg[38]? = some eX12_load := rfl
  have tail : mx_ends sL sx mx_pg 2047 38 12 [(0, .ref 66), (1, .int v)] [] (p1_D ++ p1_M) 0 0 (some (.int (-1)), p1_D ++ p1_M, 0, 0) := by
    refine mx_ends_go he 1 (12, [(0, .ref 66), (1, .int v)], [], p1_D ++ p1_M, 0, 0) (13, [(0, .ref 66), (1, .int v)], [.int (-1)], p1_D ++ p1_M, 0, 0) rfl ?_
    exact mx_ends_iret he rfl rfl
  by_cases h0 : v < 0
  · exact mx_ends_ct he 2 (0, [(0, .ref 66), (1, .int v)], [], p1_D ++ p1_M, 0, 0) (decide (v < 0)) 12 4 ([(0, .ref 66), (1, .int v)], [], p1_D ++ p1_M, 0, 0) rfl (decide_eq_true h0) tail
  have h1 : ¬ v ≤ 0 := fun q => by
    rcases Int32.lt_or_eq_of_le q with q | q
    · exact h0 q
    · exact hv q
  refine mx_ends_cf he 2 (0, [(0, .ref 66), (1, .int v)], [], p1_D ++ p1_M, 0, 0) (decide (v < 0)) 12 4 ([(0, .ref 66), (1, .int v)], [], p1_D ++ p1_M, 0, 0) rfl (decide_eq_false h0) ?_
  exact mx_ends_cf he 4 (4, [(0, .ref 66), (1, .int v)], [], p1_D ++ p1_M, 0, 0) (decide (v ≤ 0)) 14 12 ([(0, .ref 66), (1, .int v)], [], p1_D ++ p1_M, 0, 0) rfl (decide_eq_false h1) tail
def p1_L (b : Int32) (t : Nat → Int32) : List va_E := [
  .inr (11, [.ref 1, .int 0, .int b, .int (-1), .int (-1), .int (-1), .ref 2, .ref 7, .ref 18, .ref 38, .ref 55]),
  .inl (0, 240, .inl (fun _ => 0)),
  .inr (8, [.ref 3, .ref 4, .ref 5, .ref 6, .int 0, .int 0]),
  .inl (0, 240, .inl t),
  .inl (0, 240, .inl (fun _ => 0)),
  .inl (0, 240, .inl (fun _ => 0)),
  .inl (0, 240, .inl (fun _ => 0)),
  .inr (2, [.ref 2, .int 0]),
  .inr (9, [.ref 9, .ref 10, .int 2]),
  .inl (0, 256, .inl (fun _ => 0)),
  .inl (0, 256, .inl (fun _ => 0)),
  .inr (7, [.ref 8, .ref 12, .ref 13, .ref 14, .ref 15, .ref 16, .int 0, .ref 17, .int 0]),
  .inl (0, 1024, .inl (fun _ => 0)),
  .inl (0, 1024, .inl (fun _ => 0)),
  .inl (0, 1024, .inl (fun _ => 0)),
  .inl (0, 1024, .inl (fun _ => 0)),
  .inl (0, 1024, .inl (fun _ => 0)),
  .inl (0, 512, .inl (fun _ => 0)),
  .inr (1, [.ref 2, .ref 8, .ref 11, .ref 19, .ref 22, .ref 25, .ref 26, .ref 27, .ref 28, .int 0, .int 0, .int 0, .int 0, .int 0, .int 0]),
  .inr (4, [.ref 20, .ref 21, .int 0]),
  .inl (0, 8, .inl (fun _ => 0)),
  .inl (0, 8, .inl (fun _ => 0)),
  .inr (4, [.ref 23, .ref 24, .int 0]),
  .inl (0, 5, .inl (fun _ => 0)),
  .inl (0, 5, .inl (fun _ => 0)),
  .inl (0, 5, .inl (fun _ => 0)),
  .inl (0, 8, .inl (fun _ => 0)),
  .inl (0, 21, .inl (fun _ => 0)),
  .inl (0, 21, .inl (fun _ => 0)),
  .inr (3, [.ref 30, .ref 31, .ref 32, .int 0]),
  .inl (0, 1024, .inl (fun _ => 0)),
  .inl (0, 1024, .inl (fun _ => 0)),
  .inl (0, 1024, .inl (fun _ => 0)),
  .inr (0, [.ref 11, .ref 29, .ref 34, .ref 35, .ref 36, .ref 37, .int 0, .int 0, .int 0]),
  .inl (0, 32, .inl (fun _ => 0)),
  .inl (0, 32, .inl (fun _ => 0)),
  .inl (0, 128, .inl (fun _ => 0)),
  .inl (0, 128, .inl (fun _ => 0)),
  .inr (6, [.ref 11, .ref 29, .ref 33, .ref 39, .ref 46, .ref 53, .ref 54, .int 0, .int 0, .int 0, .int 0, .int 0, .int 0]),
  .inr (5, [.ref 40, .ref 41, .ref 42, .ref 43, .ref 44, .ref 45, .int 0]),
  .inl (0, 512, .inl (fun _ => 0)),
  .inl (0, 512, .inl (fun _ => 0)),
  .inl (0, 512, .inl (fun _ => 0)),
  .inl (0, 512, .inl (fun _ => 0)),
  .inl (0, 512, .inl (fun _ => 0)),
  .inl (0, 512, .inl (fun _ => 0)),
  .inr (5, [.ref 47, .ref 48, .ref 49, .ref 50, .ref 51, .ref 52, .int 0]),
  .inl (0, 512, .inl (fun _ => 0)),
  .inl (0, 512, .inl (fun _ => 0)),
  .inl (0, 512, .inl (fun _ => 0)),
  .inl (0, 512, .inl (fun _ => 0)),
  .inl (0, 512, .inl (fun _ => 0)),
  .inl (0, 512, .inl (fun _ => 0)),
  .inl (0, 32, .inl (fun _ => 0)),
  .inl (0, 4, .inl (fun _ => 0)),
  .inr (10, [.ref 18, .ref 8, .ref 11, .ref 29, .ref 33, .ref 56, .ref 63, .ref 64, .int 0, .ref 65, .int 0, .int (-1)]),
  .inr (5, [.ref 57, .ref 58, .ref 59, .ref 60, .ref 61, .ref 62, .int 0]),
  .inl (0, 512, .inl (fun _ => 0)),
  .inl (0, 512, .inl (fun _ => 0)),
  .inl (0, 512, .inl (fun _ => 0)),
  .inl (0, 512, .inl (fun _ => 0)),
  .inl (0, 512, .inl (fun _ => 0)),
  .inl (0, 512, .inl (fun _ => 0)),
  .inl (0, 32, .inl (fun _ => 0)),
  .inl (0, 128, .inl (fun _ => 0)),
  .inl (0, 4000, .inl (fun _ => 0)),
  .inr (12, [.ref 67, .int 0, .ref 68, .int 0, .ref 69, .ref 70, .ref 71, .int 0, .int 0, .int 0, .ref 72, .ref 73, .int 0, .ref 74, .ref 75, .ref 76, .ref 77, .ref 78, .ref 79, .ref 80, .ref 81, .ref 82, .ref 83, .ref 84, .int 0, .ref 85, .ref 86, .ref 87, .ref 88, .ref 89, .ref 90, .ref 91, .ref 92, .int 0, .int 0, .ref 93, .ref 94, .int 0, .int (-1), .int (-1), .int 0, .int 0, .int 0, .ref 95, .ref 96, .int 0, .ref 97, .int 0, .ref 98, .ref 99, .int 0, .ref 100, .ref 101, .ref 102, .ref 103, .ref 104, .int 0, .ref 105, .int 0, .ref 106, .ref 107, .int 0, .ref 108, .ref 109, .int 0, .ref 110, .ref 111, .ref 112, .ref 113, .ref 114, .int 0, .int 0, .ref 115, .ref 116, .ref 117, .int 0, .int 0, .int 0, .int 0, .int 0, .ref 118, .ref 119, .ref 120, .int 0, .ref 121, .ref 122, .int 0, .ref 123, .ref 124, .int 0]),
  .inl (0, 240, .inl (fun _ => 0)),
  .inl (0, 240, .inl (fun _ => 0)),
  .inl (0, 242, .inl (fun _ => 0)),
  .inl (0, 242, .inl (fun _ => 0)),
  .inl (0, 242, .inl (fun _ => 0)),
  .inl (0, 6000, .inl (fun _ => 0)),
  .inl (0, 6000, .inl (fun _ => 0)),
  .inl (0, 600, .inl (fun _ => 0)),
  .inl (0, 600, .inl (fun _ => 0)),
  .inl (0, 600, .inl (fun _ => 0)),
  .inl (0, 600, .inl (fun _ => 0)),
  .inl (0, 600, .inl (fun _ => 0)),
  .inl (0, 600, .inl (fun _ => 0)),
  .inl (0, 600, .inl (fun _ => 0)),
  .inl (0, 600, .inl (fun _ => 0)),
  .inl (0, 600, .inl (fun _ => 0)),
  .inl (0, 600, .inl (fun _ => 0)),
  .inl (0, 600, .inl (fun _ => 0)),
  .inl (0, 60, .inl (fun _ => 0)),
  .inl (0, 60, .inl (fun _ => 0)),
  .inl (0, 60, .inl (fun _ => 0)),
  .inl (0, 60, .inl (fun _ => 0)),
  .inl (0, 60, .inl (fun _ => 0)),
  .inl (0, 60, .inl (fun _ => 0)),
  .inl (0, 60, .inl (fun _ => 0)),
  .inl (0, 60, .inl (fun _ => 0)),
  .inl (0, 60, .inl (fun _ => 0)),
  .inl (0, 60, .inl (fun _ => 0)),
  .inl (0, 8, .inl (fun _ => 0)),
  .inl (0, 8, .inl (fun _ => 0)),
  .inl (0, 5, .inl (fun _ => 0)),
  .inl (0, 4, .inl (fun _ => 0)),
  .inl (0, 4, .inl (fun _ => 0)),
  .inl (0, 60000, .inl (fun _ => 0)),
  .inl (0, 60000, .inl (fun _ => 0)),
  .inl (0, 60000, .inl (fun _ => 0)),
  .inl (0, 60000, .inl (fun _ => 0)),
  .inl (0, 60000, .inl (fun _ => 0)),
  .inl (0, 120000, .inl (fun _ => 0)),
  .inl (0, 400000, .inl (fun _ => 0)),
  .inl (0, 400000, .inl (fun _ => 0)),
  .inl (0, 3000, .inl (fun _ => 0)),
  .inl (0, 3000, .inl (fun _ => 0)),
  .inl (0, 20000, .inl (fun _ => 0)),
  .inl (1, 3000, .inl (fun _ => 0)),
  .inl (0, 3000, .inl (fun _ => 0)),
  .inl (0, 3000, .inl (fun _ => 0)),
  .inl (0, 3000, .inl (fun _ => 0)),
  .inl (0, 400000, .inl (fun _ => 0)),
  .inl (0, 400000, .inl (fun _ => 0)),
  .inl (0, 400000, .inl (fun _ => 0)),
  .inl (0, 3000, .inl (fun _ => 0)),
  .inl (1, 3000, .inl (fun _ => 0)),
  .inl (0, 3000, .inl (fun _ => 0)),
  .inl (0, 20000, .inl (fun _ => 0)),
  .inl (0, 4001, .inl (fun _ => 0)),
  .inl (0, 5, .inl (fun _ => 0)),
  .inl (1, 3000, .inl (fun _ => 0))]
set_option maxRecDepth 100000 in
set_option maxHeartbeats 4000000 in
theorem p1_loadX0 (sL : Nat) (sx : Nat → Int32) : ∃ t', mx_run sL sx mx_pg 1000 2047 21 0 [(0, .ref 0), (1, .int 0)] [] (p1_D ++ p1_M) 0 0 = some (some (.int 0), p1_L 1 t', 0, 0) := ⟨_, rfl⟩
set_option maxRecDepth 100000 in
set_option maxHeartbeats 4000000 in
theorem p1_loadM0 (sL : Nat) (sx : Nat → Int32) (t' : Nat → Int32) : ∃ hp', mx_run sL sx mx_pg 1000 2047 38 0 [(0, .ref 66), (1, .int 0)] [] (p1_L 1 t') 0 0 = some (some (.int 0), hp', 0, 0) := ⟨_, rfl⟩
set_option maxRecDepth 100000 in
/-- behind the comparison: to the end -/
theorem p1_end (xs : Nat → Int32) (hp : List va_E) (pc v : Nat) (x : Int32) (h : mx_go 6 xs eL_law.2.2.2 1 (pc, [(3, .int 0), (2, .ref 66), (1, .ref 0), (0, .ref 1000000)], [.int x, .int x], hp, 125, 2538871) = some (378, [(3, .int 0), (2, .ref 66), (1, .ref 0), (0, .ref 1000000)], [], hp, 125, 2538871)) : mx_ends 6 xs mx_pg 2048 48 pc [(3, .int 0), (2, .ref 66), (1, .ref 0), (0, .ref 1000000)] [.int x, .int x] hp 125 2538871 (some (.int 1), hp, 125, 2538871) := by
  refine mx_ends_go p1_law 1 (pc, [(3, .int 0), (2, .ref 66), (1, .ref 0), (0, .ref 1000000)], [.int x, .int x], hp, 125, 2538871) (378, [(3, .int 0), (2, .ref 66), (1, .ref 0), (0, .ref 1000000)], [], hp, 125, 2538871) h ?_
  refine mx_ends_go p1_law 9 (378, [(3, .int 0), (2, .ref 66), (1, .ref 0), (0, .ref 1000000)], [], hp, 125, 2538871) (385, [(3, .int 6), (2, .ref 66), (1, .ref 0), (0, .ref 1000000)], [.int 1], hp, 125, 2538871) rfl ?_
  exact mx_ends_iret p1_law rfl rfl
set_option maxRecDepth 100000 in
theorem p1_case_0 (xs : Nat → Int32) : ∃ hp' : List va_E, mx_ends 6 xs mx_pg 2048 48 33 [(3, .int 0), (2, .ref 66), (1, .ref 0), (0, .ref 1000000)] [.int (nI 0)] (p1_D ++ p1_M) 125 2538871 (some (.int 1), hp', 125, 2538871) := by
  rw [p1_H0]
  obtain ⟨t1, h1⟩ := p1_feedX 6 xs (xs 1) (xs 2) (xs 3) (xs 4) (xs 5) (fun _ => 0) 0 (fun _ => 0)
  obtain ⟨u1, h2⟩ := p1_feedM 6 xs (xs 1) (xs 2) (xs 3) (xs 4) (xs 5) 20 t1 (fun _ => 0)
  refine ⟨p1_H 20 t1 20 u1, ?_⟩
  refine mx_ends_go p1_law 27 (33, [(3, .int 0), (2, .ref 66), (1, .ref 0), (0, .ref 1000000)], [.int (nI 0)], p1_H 0 (fun _ => 0) 0 (fun _ => 0), 125, 2538871) (114, [(3, .int 0), (2, .ref 66), (1, .ref 0), (0, .ref 1000000)], [.int (xs 5), .int (xs 4), .int (xs 3), .int (xs 2), .int (xs 1), .ref 0], p1_H 0 (fun _ => 0) 0 (fun _ => 0), 125, 2538871) rfl ?_
  refine mx_ends_V (r1 := (some (.int 20), p1_H 20 t1 0 (fun _ => 0), 0, 0)) (i := 0) (rest := []) p1_law rfl rfl rfl rfl h1 ?_
  refine mx_ends_go p1_law 26 (117, [(3, .int 0), (2, .ref 66), (1, .ref 0), (0, .ref 1000000)], [.int 20], p1_H 20 t1 0 (fun _ => 0), 125, 2538871) (143, [(3, .int 0), (2, .ref 66), (1, .ref 0), (0, .ref 1000000)], [.int (xs 5), .int (xs 4), .int (xs 3), .int (xs 2), .int (xs 1), .ref 66, .int 20], p1_H 20 t1 0 (fun _ => 0), 125, 2538871) rfl ?_
  refine mx_ends_V (r1 := (some (.int 20), p1_H 20 t1 20 u1, 0, 0)) (i := 66) (rest := [.int 20]) p1_law rfl rfl rfl rfl h2 ?_
  exact p1_end xs _ 146 0 20 rfl
set_option maxRecDepth 100000 in
theorem p1_case_1 (xs : Nat → Int32) : ∃ hp' : List va_E, mx_ends 6 xs mx_pg 2048 48 33 [(3, .int 0), (2, .ref 66), (1, .ref 0), (0, .ref 1000000)] [.int (nI 1)] (p1_D ++ p1_M) 125 2538871 (some (.int 1), hp', 125, 2538871) := by
  have pre : ∀ r, mx_ends 6 xs mx_pg 2048 48 157 [(3, .int 0), (2, .ref 66), (1, .ref 0), (0, .ref 1000000)] [.int (xs 1), .ref 0] (p1_D ++ p1_M) 125 2538871 r → mx_ends 6 xs mx_pg 2048 48 33 [(3, .int 0), (2, .ref 66), (1, .ref 0), (0, .ref 1000000)] [.int (nI 1)] (p1_D ++ p1_M) 125 2538871 r := fun r k =>
    mx_ends_go p1_law 7 (33, [(3, .int 0), (2, .ref 66), (1, .ref 0), (0, .ref 1000000)], [.int (nI 1)], p1_D ++ p1_M, 125, 2538871) (157, [(3, .int 0), (2, .ref 66), (1, .ref 0), (0, .ref 1000000)], [.int (xs 1), .ref 0], p1_D ++ p1_M, 125, 2538871) rfl k
  by_cases hv : xs 1 = 0
  · obtain ⟨t1, h1⟩ := p1_loadX0 6 xs
    obtain ⟨hp', h2⟩ := p1_loadM0 6 xs t1
    refine ⟨hp', pre _ ?_⟩
    refine mx_ends_V (r1 := (some (.int 0), p1_L 1 t1, 0, 0)) (i := 0) (rest := []) p1_law rfl rfl rfl rfl (by rw [hv]; exact ⟨1000, h1⟩) ?_
    refine mx_ends_go p1_law 6 (160, [(3, .int 0), (2, .ref 66), (1, .ref 0), (0, .ref 1000000)], [.int 0], p1_L 1 t1, 125, 2538871) (166, [(3, .int 0), (2, .ref 66), (1, .ref 0), (0, .ref 1000000)], [.int (xs 1), .ref 66, .int 0], p1_L 1 t1, 125, 2538871) rfl ?_
    refine mx_ends_V (r1 := (some (.int 0), hp', 0, 0)) (i := 66) (rest := [.int 0]) p1_law rfl rfl rfl rfl (by rw [hv]; exact ⟨1000, h2⟩) ?_
    exact p1_end xs _ 169 0 0 rfl
  · refine ⟨p1_D ++ p1_M, pre _ ?_⟩
    refine mx_ends_V (r1 := (some (.int (-1)), p1_D ++ p1_M, 0, 0)) (i := 0) (rest := []) p1_law rfl rfl rfl rfl (p1_loadXn 6 xs (xs 1) hv) ?_
    refine mx_ends_go p1_law 6 (160, [(3, .int 0), (2, .ref 66), (1, .ref 0), (0, .ref 1000000)], [.int (-1)], p1_D ++ p1_M, 125, 2538871) (166, [(3, .int 0), (2, .ref 66), (1, .ref 0), (0, .ref 1000000)], [.int (xs 1), .ref 66, .int (-1)], p1_D ++ p1_M, 125, 2538871) rfl ?_
    refine mx_ends_V (r1 := (some (.int (-1)), p1_D ++ p1_M, 0, 0)) (i := 66) (rest := [.int (-1)]) p1_law rfl rfl rfl rfl (p1_loadMn 6 xs (xs 1) hv) ?_
    exact p1_end xs _ 169 0 (-1) rfl
set_option maxRecDepth 100000 in
theorem p1_case_2 (xs : Nat → Int32) : ∃ hp' : List va_E, mx_ends 6 xs mx_pg 2048 48 33 [(3, .int 0), (2, .ref 66), (1, .ref 0), (0, .ref 1000000)] [.int (nI 2)] (p1_D ++ p1_M) 125 2538871 (some (.int 1), hp', 125, 2538871) := by
  refine ⟨p1_D ++ p1_M, ?_⟩
  refine mx_ends_go p1_law 7 (33, [(3, .int 0), (2, .ref 66), (1, .ref 0), (0, .ref 1000000)], [.int (nI 2)], p1_D ++ p1_M, 125, 2538871) (180, [(3, .int 0), (2, .ref 66), (1, .ref 0), (0, .ref 1000000)], [.int (xs 1), .ref 0], p1_D ++ p1_M, 125, 2538871) rfl ?_
  refine mx_ends_V (r1 := (some (.int (-1)), p1_D ++ p1_M, 0, 0)) (i := 0) (rest := []) p1_law rfl rfl rfl rfl (p1_toldX 6 xs (xs 1)) ?_
  refine mx_ends_go p1_law 6 (183, [(3, .int 0), (2, .ref 66), (1, .ref 0), (0, .ref 1000000)], [.int (-1)], p1_D ++ p1_M, 125, 2538871) (189, [(3, .int 0), (2, .ref 66), (1, .ref 0), (0, .ref 1000000)], [.int (xs 1), .ref 66, .int (-1)], p1_D ++ p1_M, 125, 2538871) rfl ?_
  refine mx_ends_V (r1 := (some (.int (-1)), p1_D ++ p1_M, 0, 0)) (i := 66) (rest := [.int (-1)]) p1_law rfl rfl rfl rfl (p1_toldM 6 xs (xs 1)) ?_
  exact p1_end xs _ 192 0 (-1) rfl
theorem p1_switch (xs : Nat → Int32) : ∀ j, j < 16 → ∃ hp' : List va_E, mx_ends 6 xs mx_pg 2048 48 33 [(3, .int 0), (2, .ref 66), (1, .ref 0), (0, .ref 1000000)] [.int (nI j)] (p1_D ++ p1_M) 125 2538871 (some (.int 1), hp', 125, 2538871)
  | 0, _ => p1_case_0 xs
  | 1, _ => p1_case_1 xs
  | 2, _ => p1_case_2 xs
  | 3, _ => (p1_case_3 xs).elim fun hp h => ⟨hp, 3000, h⟩
  | 4, _ => (p1_case_4 xs).elim fun hp h => ⟨hp, 3000, h⟩
  | 5, _ => (p1_case_5 xs).elim fun hp h => ⟨hp, 3000, h⟩
  | 6, _ => (p1_case_6 xs).elim fun hp h => ⟨hp, 3000, h⟩
  | 7, _ => (p1_case_7 xs).elim fun hp h => ⟨hp, 3000, h⟩
  | 8, _ => (p1_case_8 xs).elim fun hp h => ⟨hp, 3000, h⟩
  | 9, _ => (p1_case_9 xs).elim fun hp h => ⟨hp, 3000, h⟩
  | 10, _ => (p1_case_10 xs).elim fun hp h => ⟨hp, 3000, h⟩
  | 11, _ => (p1_case_11 xs).elim fun hp h => ⟨hp, 3000, h⟩
  | 12, _ => (p1_case_12 xs).elim fun hp h => ⟨hp, 3000, h⟩
  | 13, _ => (p1_case_13 xs).elim fun hp h => ⟨hp, 3000, h⟩
  | 14, _ => (p1_case_14 xs).elim fun hp h => ⟨hp, 3000, h⟩
  | 15, _ => (p1_case_15 xs).elim fun hp h => ⟨hp, 3000, h⟩
  | n + 16, h => absurd h (by omega)
theorem p1_six (xs : Nat → Int32) : p1_good 6 xs := by
  obtain ⟨j, hj, hx⟩ := pk_andE (xs 0) (m := 15) 4 (by decide)
  obtain ⟨hp', h⟩ := p1_switch xs j hj
  exact ⟨hp', 125, 2538871, p1_to (by rw [hx]; exact h), by decide, by decide⟩
theorem p1_all (xs : Nat → Int32) (L : Nat) (hL : L ≤ 6) : p1_good L xs := by
  by_cases h : L < 6
  · exact p1_short xs L h
  · have h6 : L = 6 := by omega
    subst h6
    exact p1_six xs
/-- THE CLAIM for scripts of at most six ints: the law's walk -/
theorem p1_start {p : Program} {e : Env} {s : State} {m : MethodId} {below : List Frame} {meth : Method} {c : Code} (l : Launch) {b L : Nat} {xs : Nat → Int32} (hL : L ≤ 6) (C0 : lw_At p s m meth c b L xs) : W p l e room_1 s m #[Value.ref b] below meth c s.heap [] 0 0 (lw_Z below #[Value.ref b] s) (entryFrame m ([Value.ref b] : List Value).toArray 4) := by
  obtain ⟨hp', c', s', ⟨n, h⟩, hc, hs⟩ := p1_all xs L hL
  exact mx_law l (Nat.le_trans hL (by decide)) C0 h hc hs
