/-! ===== what the constructors leave ===== -/
def p1_D : List va_E := [
  .inr (11, [.ref 1, .int 0, .int 0, .int (-1), .int (-1), .int (-1), .ref 2, .ref 7, .ref 18, .ref 38, .ref 55]),
  .inl (0, 240, .inl (fun _ => 0)),
  .inr (8, [.ref 3, .ref 4, .ref 5, .ref 6, .int 0, .int 0]),
  .inl (0, 240, .inl (fun _ => 0)),
  .inl (0, 240, .inl (fun _ => 0)),
  .inl (0, 240, .inl (fun _ => 0)),
  .inl (0, 240, .inl (fun _ => 0)),
  .inr (2, [.ref 2, .int 0]),
  .inr (9, [.ref 9, .ref 10, .int 2]),
  .inl (0, 256, .inl (fun _ => 0)),
  .inl (0, 256, .inl (fun _ => 0)),
  .inr (7, [.ref 8, .ref 12, .ref 13, .ref 14, .ref 15, .ref 16, .int 0, .ref 17, .int 0]),
  .inl (0, 1024, .inl (fun _ => 0)),
  .inl (0, 1024, .inl (fun _ => 0)),
  .inl (0, 1024, .inl (fun _ => 0)),
  .inl (0, 1024, .inl (fun _ => 0)),
  .inl (0, 1024, .inl (fun _ => 0)),
  .inl (0, 512, .inl (fun _ => 0)),
  .inr (1, [.ref 2, .ref 8, .ref 11, .ref 19, .ref 22, .ref 25, .ref 26, .ref 27, .ref 28, .int 0, .int 0, .int 0, .int 0, .int 0, .int 0]),
  .inr (4, [.ref 20, .ref 21, .int 0]),
  .inl (0, 8, .inl (fun _ => 0)),
  .inl (0, 8, .inl (fun _ => 0)),
  .inr (4, [.ref 23, .ref 24, .int 0]),
  .inl (0, 5, .inl (fun _ => 0)),
  .inl (0, 5, .inl (fun _ => 0)),
  .inl (0, 5, .inl (fun _ => 0)),
  .inl (0, 8, .inl (fun _ => 0)),
  .inl (0, 21, .inl (fun _ => 0)),
  .inl (0, 21, .inl (fun _ => 0)),
  .inr (3, [.ref 30, .ref 31, .ref 32, .int 0]),
  .inl (0, 1024, .inl (fun _ => 0)),
  .inl (0, 1024, .inl (fun _ => 0)),
  .inl (0, 1024, .inl (fun _ => 0)),
  .inr (0, [.ref 11, .ref 29, .ref 34, .ref 35, .ref 36, .ref 37, .int 0, .int 0, .int 0]),
  .inl (0, 32, .inl (fun _ => 0)),
  .inl (0, 32, .inl (fun _ => 0)),
  .inl (0, 128, .inl (fun _ => 0)),
  .inl (0, 128, .inl (fun _ => 0)),
  .inr (6, [.ref 11, .ref 29, .ref 33, .ref 39, .ref 46, .ref 53, .ref 54, .int 0, .int 0, .int 0, .int 0, .int 0, .int 0]),
  .inr (5, [.ref 40, .ref 41, .ref 42, .ref 43, .ref 44, .ref 45, .int 0]),
  .inl (0, 512, .inl (fun _ => 0)),
  .inl (0, 512, .inl (fun _ => 0)),
  .inl (0, 512, .inl (fun _ => 0)),
  .inl (0, 512, .inl (fun _ => 0)),
  .inl (0, 512, .inl (fun _ => 0)),
  .inl (0, 512, .inl (fun _ => 0)),
  .inr (5, [.ref 47, .ref 48, .ref 49, .ref 50, .ref 51, .ref 52, .int 0]),
  .inl (0, 512, .inl (fun _ => 0)),
  .inl (0, 512, .inl (fun _ => 0)),
  .inl (0, 512, .inl (fun _ => 0)),
  .inl (0, 512, .inl (fun _ => 0)),
  .inl (0, 512, .inl (fun _ => 0)),
  .inl (0, 512, .inl (fun _ => 0)),
  .inl (0, 32, .inl (fun _ => 0)),
  .inl (0, 4, .inl (fun _ => 0)),
  .inr (10, [.ref 18, .ref 8, .ref 11, .ref 29, .ref 33, .ref 56, .ref 63, .ref 64, .int 0, .ref 65, .int 0, .int (-1)]),
  .inr (5, [.ref 57, .ref 58, .ref 59, .ref 60, .ref 61, .ref 62, .int 0]),
  .inl (0, 512, .inl (fun _ => 0)),
  .inl (0, 512, .inl (fun _ => 0)),
  .inl (0, 512, .inl (fun _ => 0)),
  .inl (0, 512, .inl (fun _ => 0)),
  .inl (0, 512, .inl (fun _ => 0)),
  .inl (0, 512, .inl (fun _ => 0)),
  .inl (0, 32, .inl (fun _ => 0)),
  .inl (0, 128, .inl (fun _ => 0)),
  .inl (0, 4000, .inl (fun _ => 0))]
def p1_M : List va_E := [
  .inr (12, [.ref 67, .int 0, .ref 68, .int 0, .ref 69, .ref 70, .ref 71, .int 0, .int 0, .int 0, .ref 72, .ref 73, .int 0, .ref 74, .ref 75, .ref 76, .ref 77, .ref 78, .ref 79, .ref 80, .ref 81, .ref 82, .ref 83, .ref 84, .int 0, .ref 85, .ref 86, .ref 87, .ref 88, .ref 89, .ref 90, .ref 91, .ref 92, .int 0, .int 0, .ref 93, .ref 94, .int 0, .int (-1), .int (-1), .int 0, .int 0, .int 0, .ref 95, .ref 96, .int 0, .ref 97, .int 0, .ref 98, .ref 99, .int 0, .ref 100, .ref 101, .ref 102, .ref 103, .ref 104, .int 0, .ref 105, .int 0, .ref 106, .ref 107, .int 0, .ref 108, .ref 109, .int 0, .ref 110, .ref 111, .ref 112, .ref 113, .ref 114, .int 0, .int 0, .ref 115, .ref 116, .ref 117, .int 0, .int 0, .int 0, .int 0, .int 0, .ref 118, .ref 119, .ref 120, .int 0, .ref 121, .ref 122, .int 0, .ref 123, .ref 124, .int 0]),
  .inl (0, 240, .inl (fun _ => 0)),
  .inl (0, 240, .inl (fun _ => 0)),
  .inl (0, 242, .inl (fun _ => 0)),
  .inl (0, 242, .inl (fun _ => 0)),
  .inl (0, 242, .inl (fun _ => 0)),
  .inl (0, 6000, .inl (fun _ => 0)),
  .inl (0, 6000, .inl (fun _ => 0)),
  .inl (0, 600, .inl (fun _ => 0)),
  .inl (0, 600, .inl (fun _ => 0)),
  .inl (0, 600, .inl (fun _ => 0)),
  .inl (0, 600, .inl (fun _ => 0)),
  .inl (0, 600, .inl (fun _ => 0)),
  .inl (0, 600, .inl (fun _ => 0)),
  .inl (0, 600, .inl (fun _ => 0)),
  .inl (0, 600, .inl (fun _ => 0)),
  .inl (0, 600, .inl (fun _ => 0)),
  .inl (0, 600, .inl (fun _ => 0)),
  .inl (0, 600, .inl (fun _ => 0)),
  .inl (0, 60, .inl (fun _ => 0)),
  .inl (0, 60, .inl (fun _ => 0)),
  .inl (0, 60, .inl (fun _ => 0)),
  .inl (0, 60, .inl (fun _ => 0)),
  .inl (0, 60, .inl (fun _ => 0)),
  .inl (0, 60, .inl (fun _ => 0)),
  .inl (0, 60, .inl (fun _ => 0)),
  .inl (0, 60, .inl (fun _ => 0)),
  .inl (0, 60, .inl (fun _ => 0)),
  .inl (0, 60, .inl (fun _ => 0)),
  .inl (0, 8, .inl (fun _ => 0)),
  .inl (0, 8, .inl (fun _ => 0)),
  .inl (0, 5, .inl (fun _ => 0)),
  .inl (0, 4, .inl (fun _ => 0)),
  .inl (0, 4, .inl (fun _ => 0)),
  .inl (0, 60000, .inl (fun _ => 0)),
  .inl (0, 60000, .inl (fun _ => 0)),
  .inl (0, 60000, .inl (fun _ => 0)),
  .inl (0, 60000, .inl (fun _ => 0)),
  .inl (0, 60000, .inl (fun _ => 0)),
  .inl (0, 120000, .inl (fun _ => 0)),
  .inl (0, 400000, .inl (fun _ => 0)),
  .inl (0, 400000, .inl (fun _ => 0)),
  .inl (0, 3000, .inl (fun _ => 0)),
  .inl (0, 3000, .inl (fun _ => 0)),
  .inl (0, 20000, .inl (fun _ => 0)),
  .inl (1, 3000, .inl (fun _ => 0)),
  .inl (0, 3000, .inl (fun _ => 0)),
  .inl (0, 3000, .inl (fun _ => 0)),
  .inl (0, 3000, .inl (fun _ => 0)),
  .inl (0, 400000, .inl (fun _ => 0)),
  .inl (0, 400000, .inl (fun _ => 0)),
  .inl (0, 400000, .inl (fun _ => 0)),
  .inl (0, 3000, .inl (fun _ => 0)),
  .inl (1, 3000, .inl (fun _ => 0)),
  .inl (0, 3000, .inl (fun _ => 0)),
  .inl (0, 20000, .inl (fun _ => 0)),
  .inl (0, 4001, .inl (fun _ => 0)),
  .inl (0, 5, .inl (fun _ => 0)),
  .inl (1, 3000, .inl (fun _ => 0))]
set_option maxRecDepth 100000 in
theorem p1_ctorD (sL : Nat) (sx : Nat → Int32) : mx_run sL sx mx_pg 2000 2047 19 0 [(0, .ref 0)] [] [.inr (11, [.null, .int 0, .int 0, .int 0, .int 0, .int 0, .null, .null, .null, .null, .null])] 0 0 = some (none, p1_D, 65, 24329) := rfl
set_option maxRecDepth 100000 in
theorem p1_ctorM (sL : Nat) (sx : Nat → Int32) : mx_run sL sx mx_pg 2000 2047 32 0 [(0, .ref 66)] [] (p1_D ++ [.inr (12, [.null, .int 0, .null, .int 0, .null, .null, .null, .int 0, .int 0, .int 0, .null, .null, .int 0, .null, .null, .null, .null, .null, .null, .null, .null, .null, .null, .null, .int 0, .null, .null, .null, .null, .null, .null, .null, .null, .int 0, .int 0, .null, .null, .int 0, .int 0, .int 0, .int 0, .int 0, .int 0, .null, .null, .int 0, .null, .int 0, .null, .null, .int 0, .null, .null, .null, .null, .null, .int 0, .null, .int 0, .null, .null, .int 0, .null, .null, .int 0, .null, .null, .null, .null, .null, .int 0, .int 0, .null, .null, .null, .int 0, .int 0, .int 0, .int 0, .int 0, .null, .null, .null, .int 0, .null, .null, .int 0, .null, .null, .int 0])]) 0 0 = some (none, p1_D ++ p1_M, 58, 2514441) := rfl
theorem p1_law : mx_pg[48]? = some eL_law := rfl
set_option maxRecDepth 100000 in
theorem p1_pre {sL : Nat} {sx : Nat → Int32} {r : Option Value × List va_E × Nat × Nat} (h : mx_ends sL sx mx_pg 2048 48 18 [(3, .int 0), (2, .ref 66), (1, .ref 0), (0, .ref 1000000)] [] (p1_D ++ p1_M) 125 2538871 r) : mx_ends sL sx mx_pg 2048 48 0 [(0, .ref 1000000)] [] [] 0 0 r := by
  refine mx_ends_go p1_law 2 (0, [(0, .ref 1000000)], [], [], 0, 0) (4, [(0, .ref 1000000)], [.ref 0, .ref 0], [.inr (11, [.null, .int 0, .int 0, .int 0, .int 0, .int 0, .null, .null, .null, .null, .null])], 1, 11) rfl ?_
  refine mx_ends_I (r1 := (none, p1_D, 65, 24329)) (i := 0) (rest := [.ref 0]) p1_law rfl rfl rfl rfl rfl ⟨2000, p1_ctorD sL sx⟩ ?_
  refine mx_ends_go p1_law 3 (7, [(0, .ref 1000000)], [.ref 0], p1_D, 66, 24340) (12, [(1, .ref 0), (0, .ref 1000000)], [.ref 66, .ref 66], p1_D ++ [.inr (12, [.null, .int 0, .null, .int 0, .null, .null, .null, .int 0, .int 0, .int 0, .null, .null, .int 0, .null, .null, .null, .null, .null, .null, .null, .null, .null, .null, .null, .int 0, .null, .null, .null, .null, .null, .null, .null, .null, .int 0, .int 0, .null, .null, .int 0, .int 0, .int 0, .int 0, .int 0, .int 0, .null, .null, .int 0, .null, .int 0, .null, .null, .int 0, .null, .null, .null, .null, .null, .int 0, .null, .int 0, .null, .null, .int 0, .null, .null, .int 0, .null, .null, .null, .null, .null, .int 0, .int 0, .null, .null, .null, .int 0, .int 0, .int 0, .int 0, .int 0, .null, .null, .null, .int 0, .null, .null, .int 0, .null, .null, .int 0])], 67, 24430) rfl ?_
  refine mx_ends_I (r1 := (none, p1_D ++ p1_M, 58, 2514441)) (i := 66) (rest := [.ref 66]) p1_law rfl rfl rfl rfl rfl ⟨2000, p1_ctorM sL sx⟩ ?_
  exact mx_ends_go p1_law 3 (15, [(1, .ref 0), (0, .ref 1000000)], [.ref 66], p1_D ++ p1_M, 125, 2538871) (18, [(3, .int 0), (2, .ref 66), (1, .ref 0), (0, .ref 1000000)], [], p1_D ++ p1_M, 125, 2538871) rfl h
/-- a script too short for a call -/
def p1_good (sL : Nat) (sx : Nat → Int32) : Prop := ∃ (hp' : List va_E) (c' s' : Nat), mx_ends sL sx mx_pg 2048 48 0 [(0, .ref 1000000)] [] [] 0 0 (some (.int 1), hp', c', s') ∧ c' ≤ 600000 ∧ s' ≤ 7302250
set_option maxRecDepth 100000 in
theorem p1_short (xs : Nat → Int32) : ∀ L, L < 6 → p1_good L xs
  | 0, _ => ⟨_, _, _, p1_pre (mx_ends_go p1_law 7 (18, [(3, .int 0), (2, .ref 66), (1, .ref 0), (0, .ref 1000000)], [], p1_D ++ p1_M, 125, 2538871) (385, [(3, .int 0), (2, .ref 66), (1, .ref 0), (0, .ref 1000000)], [.int 1], p1_D ++ p1_M, 125, 2538871) rfl (mx_ends_iret p1_law rfl rfl)), by decide, by decide⟩
  | 1, _ => ⟨_, _, _, p1_pre (mx_ends_go p1_law 7 (18, [(3, .int 0), (2, .ref 66), (1, .ref 0), (0, .ref 1000000)], [], p1_D ++ p1_M, 125, 2538871) (385, [(3, .int 0), (2, .ref 66), (1, .ref 0), (0, .ref 1000000)], [.int 1], p1_D ++ p1_M, 125, 2538871) rfl (mx_ends_iret p1_law rfl rfl)), by decide, by decide⟩
  | 2, _ => ⟨_, _, _, p1_pre (mx_ends_go p1_law 7 (18, [(3, .int 0), (2, .ref 66), (1, .ref 0), (0, .ref 1000000)], [], p1_D ++ p1_M, 125, 2538871) (385, [(3, .int 0), (2, .ref 66), (1, .ref 0), (0, .ref 1000000)], [.int 1], p1_D ++ p1_M, 125, 2538871) rfl (mx_ends_iret p1_law rfl rfl)), by decide, by decide⟩
  | 3, _ => ⟨_, _, _, p1_pre (mx_ends_go p1_law 7 (18, [(3, .int 0), (2, .ref 66), (1, .ref 0), (0, .ref 1000000)], [], p1_D ++ p1_M, 125, 2538871) (385, [(3, .int 0), (2, .ref 66), (1, .ref 0), (0, .ref 1000000)], [.int 1], p1_D ++ p1_M, 125, 2538871) rfl (mx_ends_iret p1_law rfl rfl)), by decide, by decide⟩
  | 4, _ => ⟨_, _, _, p1_pre (mx_ends_go p1_law 7 (18, [(3, .int 0), (2, .ref 66), (1, .ref 0), (0, .ref 1000000)], [], p1_D ++ p1_M, 125, 2538871) (385, [(3, .int 0), (2, .ref 66), (1, .ref 0), (0, .ref 1000000)], [.int 1], p1_D ++ p1_M, 125, 2538871) rfl (mx_ends_iret p1_law rfl rfl)), by decide, by decide⟩
  | 5, _ => ⟨_, _, _, p1_pre (mx_ends_go p1_law 7 (18, [(3, .int 0), (2, .ref 66), (1, .ref 0), (0, .ref 1000000)], [], p1_D ++ p1_M, 125, 2538871) (385, [(3, .int 0), (2, .ref 66), (1, .ref 0), (0, .ref 1000000)], [.int 1], p1_D ++ p1_M, 125, 2538871) rfl (mx_ends_iret p1_law rfl rfl)), by decide, by decide⟩
  | n + 6, h => absurd h (by omega)
set_option maxRecDepth 100000 in
theorem p1_to {xs : Nat → Int32} {r : Option Value × List va_E × Nat × Nat} (h : mx_ends 6 xs mx_pg 2048 48 33 [(3, .int 0), (2, .ref 66), (1, .ref 0), (0, .ref 1000000)] [.int (xs 0 &&& 15)] (p1_D ++ p1_M) 125 2538871 r) : mx_ends 6 xs mx_pg 2048 48 0 [(0, .ref 1000000)] [] [] 0 0 r :=
  p1_pre (mx_ends_go p1_law 11 (18, [(3, .int 0), (2, .ref 66), (1, .ref 0), (0, .ref 1000000)], [], p1_D ++ p1_M, 125, 2538871) (33, [(3, .int 0), (2, .ref 66), (1, .ref 0), (0, .ref 1000000)], [.int (xs 0 &&& 15)], p1_D ++ p1_M, 125, 2538871) rfl h)
