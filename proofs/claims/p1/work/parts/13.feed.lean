/-! ===== feed on fresh objects ===== -/
def p1_H (f : Int32) (t : Nat → Int32) (g : Int32) (u : Nat → Int32) : List va_E := [
  .inr (11, [.ref 1, .int f, .int 0, .int (-1), .int (-1), .int (-1), .ref 2, .ref 7, .ref 18, .ref 38, .ref 55]),
  .inl (0, 240, .inl t),
  .inr (8, [.ref 3, .ref 4, .ref 5, .ref 6, .int 0, .int 0]),
  .inl (0, 240, .inl (fun _ => 0)),
  .inl (0, 240, .inl (fun _ => 0)),
  .inl (0, 240, .inl (fun _ => 0)),
  .inl (0, 240, .inl (fun _ => 0)),
  .inr (2, [.ref 2, .int 0]),
  .inr (9, [.ref 9, .ref 10, .int 2]),
  .inl (0, 256, .inl (fun _ => 0)),
  .inl (0, 256, .inl (fun _ => 0)),
  .inr (7, [.ref 8, .ref 12, .ref 13, .ref 14, .ref 15, .ref 16, .int 0, .ref 17, .int 0]),
  .inl (0, 1024, .inl (fun _ => 0)),
  .inl (0, 1024, .inl (fun _ => 0)),
  .inl (0, 1024, .inl (fun _ => 0)),
  .inl (0, 1024, .inl (fun _ => 0)),
  .inl (0, 1024, .inl (fun _ => 0)),
  .inl (0, 512, .inl (fun _ => 0)),
  .inr (1, [.ref 2, .ref 8, .ref 11, .ref 19, .ref 22, .ref 25, .ref 26, .ref 27, .ref 28, .int 0, .int 0, .int 0, .int 0, .int 0, .int 0]),
  .inr (4, [.ref 20, .ref 21, .int 0]),
  .inl (0, 8, .inl (fun _ => 0)),
  .inl (0, 8, .inl (fun _ => 0)),
  .inr (4, [.ref 23, .ref 24, .int 0]),
  .inl (0, 5, .inl (fun _ => 0)),
  .inl (0, 5, .inl (fun _ => 0)),
  .inl (0, 5, .inl (fun _ => 0)),
  .inl (0, 8, .inl (fun _ => 0)),
  .inl (0, 21, .inl (fun _ => 0)),
  .inl (0, 21, .inl (fun _ => 0)),
  .inr (3, [.ref 30, .ref 31, .ref 32, .int 0]),
  .inl (0, 1024, .inl (fun _ => 0)),
  .inl (0, 1024, .inl (fun _ => 0)),
  .inl (0, 1024, .inl (fun _ => 0)),
  .inr (0, [.ref 11, .ref 29, .ref 34, .ref 35, .ref 36, .ref 37, .int 0, .int 0, .int 0]),
  .inl (0, 32, .inl (fun _ => 0)),
  .inl (0, 32, .inl (fun _ => 0)),
  .inl (0, 128, .inl (fun _ => 0)),
  .inl (0, 128, .inl (fun _ => 0)),
  .inr (6, [.ref 11, .ref 29, .ref 33, .ref 39, .ref 46, .ref 53, .ref 54, .int 0, .int 0, .int 0, .int 0, .int 0, .int 0]),
  .inr (5, [.ref 40, .ref 41, .ref 42, .ref 43, .ref 44, .ref 45, .int 0]),
  .inl (0, 512, .inl (fun _ => 0)),
  .inl (0, 512, .inl (fun _ => 0)),
  .inl (0, 512, .inl (fun _ => 0)),
  .inl (0, 512, .inl (fun _ => 0)),
  .inl (0, 512, .inl (fun _ => 0)),
  .inl (0, 512, .inl (fun _ => 0)),
  .inr (5, [.ref 47, .ref 48, .ref 49, .ref 50, .ref 51, .ref 52, .int 0]),
  .inl (0, 512, .inl (fun _ => 0)),
  .inl (0, 512, .inl (fun _ => 0)),
  .inl (0, 512, .inl (fun _ => 0)),
  .inl (0, 512, .inl (fun _ => 0)),
  .inl (0, 512, .inl (fun _ => 0)),
  .inl (0, 512, .inl (fun _ => 0)),
  .inl (0, 32, .inl (fun _ => 0)),
  .inl (0, 4, .inl (fun _ => 0)),
  .inr (10, [.ref 18, .ref 8, .ref 11, .ref 29, .ref 33, .ref 56, .ref 63, .ref 64, .int 0, .ref 65, .int 0, .int (-1)]),
  .inr (5, [.ref 57, .ref 58, .ref 59, .ref 60, .ref 61, .ref 62, .int 0]),
  .inl (0, 512, .inl (fun _ => 0)),
  .inl (0, 512, .inl (fun _ => 0)),
  .inl (0, 512, .inl (fun _ => 0)),
  .inl (0, 512, .inl (fun _ => 0)),
  .inl (0, 512, .inl (fun _ => 0)),
  .inl (0, 512, .inl (fun _ => 0)),
  .inl (0, 32, .inl (fun _ => 0)),
  .inl (0, 128, .inl (fun _ => 0)),
  .inl (0, 4000, .inl (fun _ => 0)),
  .inr (12, [.ref 67, .int g, .ref 68, .int 0, .ref 69, .ref 70, .ref 71, .int 0, .int 0, .int 0, .ref 72, .ref 73, .int 0, .ref 74, .ref 75, .ref 76, .ref 77, .ref 78, .ref 79, .ref 80, .ref 81, .ref 82, .ref 83, .ref 84, .int 0, .ref 85, .ref 86, .ref 87, .ref 88, .ref 89, .ref 90, .ref 91, .ref 92, .int 0, .int 0, .ref 93, .ref 94, .int 0, .int (-1), .int (-1), .int 0, .int 0, .int 0, .ref 95, .ref 96, .int 0, .ref 97, .int 0, .ref 98, .ref 99, .int 0, .ref 100, .ref 101, .ref 102, .ref 103, .ref 104, .int 0, .ref 105, .int 0, .ref 106, .ref 107, .int 0, .ref 108, .ref 109, .int 0, .ref 110, .ref 111, .ref 112, .ref 113, .ref 114, .int 0, .int 0, .ref 115, .ref 116, .ref 117, .int 0, .int 0, .int 0, .int 0, .int 0, .ref 118, .ref 119, .ref 120, .int 0, .ref 121, .ref 122, .int 0, .ref 123, .ref 124, .int 0]),
  .inl (0, 240, .inl u),
  .inl (0, 240, .inl (fun _ => 0)),
  .inl (0, 242, .inl (fun _ => 0)),
  .inl (0, 242, .inl (fun _ => 0)),
  .inl (0, 242, .inl (fun _ => 0)),
  .inl (0, 6000, .inl (fun _ => 0)),
  .inl (0, 6000, .inl (fun _ => 0)),
  .inl (0, 600, .inl (fun _ => 0)),
  .inl (0, 600, .inl (fun _ => 0)),
  .inl (0, 600, .inl (fun _ => 0)),
  .inl (0, 600, .inl (fun _ => 0)),
  .inl (0, 600, .inl (fun _ => 0)),
  .inl (0, 600, .inl (fun _ => 0)),
  .inl (0, 600, .inl (fun _ => 0)),
  .inl (0, 600, .inl (fun _ => 0)),
  .inl (0, 600, .inl (fun _ => 0)),
  .inl (0, 600, .inl (fun _ => 0)),
  .inl (0, 600, .inl (fun _ => 0)),
  .inl (0, 60, .inl (fun _ => 0)),
  .inl (0, 60, .inl (fun _ => 0)),
  .inl (0, 60, .inl (fun _ => 0)),
  .inl (0, 60, .inl (fun _ => 0)),
  .inl (0, 60, .inl (fun _ => 0)),
  .inl (0, 60, .inl (fun _ => 0)),
  .inl (0, 60, .inl (fun _ => 0)),
  .inl (0, 60, .inl (fun _ => 0)),
  .inl (0, 60, .inl (fun _ => 0)),
  .inl (0, 60, .inl (fun _ => 0)),
  .inl (0, 8, .inl (fun _ => 0)),
  .inl (0, 8, .inl (fun _ => 0)),
  .inl (0, 5, .inl (fun _ => 0)),
  .inl (0, 4, .inl (fun _ => 0)),
  .inl (0, 4, .inl (fun _ => 0)),
  .inl (0, 60000, .inl (fun _ => 0)),
  .inl (0, 60000, .inl (fun _ => 0)),
  .inl (0, 60000, .inl (fun _ => 0)),
  .inl (0, 60000, .inl (fun _ => 0)),
  .inl (0, 60000, .inl (fun _ => 0)),
  .inl (0, 120000, .inl (fun _ => 0)),
  .inl (0, 400000, .inl (fun _ => 0)),
  .inl (0, 400000, .inl (fun _ => 0)),
  .inl (0, 3000, .inl (fun _ => 0)),
  .inl (0, 3000, .inl (fun _ => 0)),
  .inl (0, 20000, .inl (fun _ => 0)),
  .inl (1, 3000, .inl (fun _ => 0)),
  .inl (0, 3000, .inl (fun _ => 0)),
  .inl (0, 3000, .inl (fun _ => 0)),
  .inl (0, 3000, .inl (fun _ => 0)),
  .inl (0, 400000, .inl (fun _ => 0)),
  .inl (0, 400000, .inl (fun _ => 0)),
  .inl (0, 400000, .inl (fun _ => 0)),
  .inl (0, 3000, .inl (fun _ => 0)),
  .inl (1, 3000, .inl (fun _ => 0)),
  .inl (0, 3000, .inl (fun _ => 0)),
  .inl (0, 20000, .inl (fun _ => 0)),
  .inl (0, 4001, .inl (fun _ => 0)),
  .inl (0, 5, .inl (fun _ => 0)),
  .inl (1, 3000, .inl (fun _ => 0))]
theorem p1_H0 : p1_D ++ p1_M = p1_H 0 (fun _ => 0) 0 (fun _ => 0) := rfl
set_option maxRecDepth 100000 in
set_option maxHeartbeats 4000000 in
theorem p1_take_0 (sL : Nat) (sx : Nat → Int32) (a : Int32) (t : Nat → Int32) (g : Int32) (u : Nat → Int32) : ∃ t', mx_run sL sx mx_pg 200 2046 31 0 [(0, .ref 0), (1, .int a)] [] (p1_H 0 t g u) 0 0 = some (none, p1_H 4 t' g u, 0, 0) := ⟨_, rfl⟩
set_option maxRecDepth 100000 in
set_option maxHeartbeats 4000000 in
theorem p1_take_4 (sL : Nat) (sx : Nat → Int32) (a : Int32) (t : Nat → Int32) (g : Int32) (u : Nat → Int32) : ∃ t', mx_run sL sx mx_pg 200 2046 31 0 [(0, .ref 0), (1, .int a)] [] (p1_H 4 t g u) 0 0 = some (none, p1_H 8 t' g u, 0, 0) := ⟨_, rfl⟩
set_option maxRecDepth 100000 in
set_option maxHeartbeats 4000000 in
theorem p1_take_8 (sL : Nat) (sx : Nat → Int32) (a : Int32) (t : Nat → Int32) (g : Int32) (u : Nat → Int32) : ∃ t', mx_run sL sx mx_pg 200 2046 31 0 [(0, .ref 0), (1, .int a)] [] (p1_H 8 t g u) 0 0 = some (none, p1_H 12 t' g u, 0, 0) := ⟨_, rfl⟩
set_option maxRecDepth 100000 in
set_option maxHeartbeats 4000000 in
theorem p1_take_12 (sL : Nat) (sx : Nat → Int32) (a : Int32) (t : Nat → Int32) (g : Int32) (u : Nat → Int32) : ∃ t', mx_run sL sx mx_pg 200 2046 31 0 [(0, .ref 0), (1, .int a)] [] (p1_H 12 t g u) 0 0 = some (none, p1_H 16 t' g u, 0, 0) := ⟨_, rfl⟩
set_option maxRecDepth 100000 in
set_option maxHeartbeats 4000000 in
theorem p1_take_16 (sL : Nat) (sx : Nat → Int32) (a : Int32) (t : Nat → Int32) (g : Int32) (u : Nat → Int32) : ∃ t', mx_run sL sx mx_pg 200 2046 31 0 [(0, .ref 0), (1, .int a)] [] (p1_H 16 t g u) 0 0 = some (none, p1_H 20 t' g u, 0, 0) := ⟨_, rfl⟩
set_option maxRecDepth 100000 in
set_option maxHeartbeats 4000000 in
theorem p1_m_0 (sL : Nat) (sx : Nat → Int32) (z a b c d e : Int32) (f : Int32) (t : Nat → Int32) (u : Nat → Int32) : ∃ u', mx_go sL sx eX12_feed.2.2.2 33 (18, [(6, .int 0), (0, .ref 66), (1, .int a), (2, .int b), (3, .int c), (4, .int d), (5, .int e)], [], p1_H f t 0 u, 0, 0) = some (18, [(6, .int 1), (7, .int a), (0, .ref 66), (1, .int a), (2, .int b), (3, .int c), (4, .int d), (5, .int e)], [], p1_H f t 1 u', 0, 0) := ⟨_, rfl⟩
set_option maxRecDepth 100000 in
set_option maxHeartbeats 4000000 in
theorem p1_m_1 (sL : Nat) (sx : Nat → Int32) (z a b c d e : Int32) (f : Int32) (t : Nat → Int32) (u : Nat → Int32) : ∃ u', mx_go sL sx eX12_feed.2.2.2 33 (18, [(6, .int 1), (7, .int z), (0, .ref 66), (1, .int a), (2, .int b), (3, .int c), (4, .int d), (5, .int e)], [], p1_H f t 1 u, 0, 0) = some (18, [(6, .int 2), (7, .int a), (0, .ref 66), (1, .int a), (2, .int b), (3, .int c), (4, .int d), (5, .int e)], [], p1_H f t 2 u', 0, 0) := ⟨_, rfl⟩
set_option maxRecDepth 100000 in
set_option maxHeartbeats 4000000 in
theorem p1_m_2 (sL : Nat) (sx : Nat → Int32) (z a b c d e : Int32) (f : Int32) (t : Nat → Int32) (u : Nat → Int32) : ∃ u', mx_go sL sx eX12_feed.2.2.2 33 (18, [(6, .int 2), (7, .int z), (0, .ref 66), (1, .int a), (2, .int b), (3, .int c), (4, .int d), (5, .int e)], [], p1_H f t 2 u, 0, 0) = some (18, [(6, .int 3), (7, .int a), (0, .ref 66), (1, .int a), (2, .int b), (3, .int c), (4, .int d), (5, .int e)], [], p1_H f t 3 u', 0, 0) := ⟨_, rfl⟩
set_option maxRecDepth 100000 in
set_option maxHeartbeats 4000000 in
theorem p1_m_3 (sL : Nat) (sx : Nat → Int32) (z a b c d e : Int32) (f : Int32) (t : Nat → Int32) (u : Nat → Int32) : ∃ u', mx_go sL sx eX12_feed.2.2.2 33 (18, [(6, .int 3), (7, .int z), (0, .ref 66), (1, .int a), (2, .int b), (3, .int c), (4, .int d), (5, .int e)], [], p1_H f t 3 u, 0, 0) = some (18, [(6, .int 4), (7, .int a), (0, .ref 66), (1, .int a), (2, .int b), (3, .int c), (4, .int d), (5, .int e)], [], p1_H f t 4 u', 0, 0) := ⟨_, rfl⟩
set_option maxRecDepth 100000 in
set_option maxHeartbeats 4000000 in
theorem p1_m_4 (sL : Nat) (sx : Nat → Int32) (z a b c d e : Int32) (f : Int32) (t : Nat → Int32) (u : Nat → Int32) : ∃ u', mx_go sL sx eX12_feed.2.2.2 36 (18, [(6, .int 4), (7, .int z), (0, .ref 66), (1, .int a), (2, .int b), (3, .int c), (4, .int d), (5, .int e)], [], p1_H f t 4 u, 0, 0) = some (18, [(6, .int 5), (7, .int b), (0, .ref 66), (1, .int a), (2, .int b), (3, .int c), (4, .int d), (5, .int e)], [], p1_H f t 5 u', 0, 0) := ⟨_, rfl⟩
set_option maxRecDepth 100000 in
set_option maxHeartbeats 4000000 in
theorem p1_m_5 (sL : Nat) (sx : Nat → Int32) (z a b c d e : Int32) (f : Int32) (t : Nat → Int32) (u : Nat → Int32) : ∃ u', mx_go sL sx eX12_feed.2.2.2 36 (18, [(6, .int 5), (7, .int z), (0, .ref 66), (1, .int a), (2, .int b), (3, .int c), (4, .int d), (5, .int e)], [], p1_H f t 5 u, 0, 0) = some (18, [(6, .int 6), (7, .int b), (0, .ref 66), (1, .int a), (2, .int b), (3, .int c), (4, .int d), (5, .int e)], [], p1_H f t 6 u', 0, 0) := ⟨_, rfl⟩
set_option maxRecDepth 100000 in
set_option maxHeartbeats 4000000 in
theorem p1_m_6 (sL : Nat) (sx : Nat → Int32) (z a b c d e : Int32) (f : Int32) (t : Nat → Int32) (u : Nat → Int32) : ∃ u', mx_go sL sx eX12_feed.2.2.2 36 (18, [(6, .int 6), (7, .int z), (0, .ref 66), (1, .int a), (2, .int b), (3, .int c), (4, .int d), (5, .int e)], [], p1_H f t 6 u, 0, 0) = some (18, [(6, .int 7), (7, .int b), (0, .ref 66), (1, .int a), (2, .int b), (3, .int c), (4, .int d), (5, .int e)], [], p1_H f t 7 u', 0, 0) := ⟨_, rfl⟩
set_option maxRecDepth 100000 in
set_option maxHeartbeats 4000000 in
theorem p1_m_7 (sL : Nat) (sx : Nat → Int32) (z a b c d e : Int32) (f : Int32) (t : Nat → Int32) (u : Nat → Int32) : ∃ u', mx_go sL sx eX12_feed.2.2.2 36 (18, [(6, .int 7), (7, .int z), (0, .ref 66), (1, .int a), (2, .int b), (3, .int c), (4, .int d), (5, .int e)], [], p1_H f t 7 u, 0, 0) = some (18, [(6, .int 8), (7, .int b), (0, .ref 66), (1, .int a), (2, .int b), (3, .int c), (4, .int d), (5, .int e)], [], p1_H f t 8 u', 0, 0) := ⟨_, rfl⟩
set_option maxRecDepth 100000 in
set_option maxHeartbeats 4000000 in
theorem p1_m_8 (sL : Nat) (sx : Nat → Int32) (z a b c d e : Int32) (f : Int32) (t : Nat → Int32) (u : Nat → Int32) : ∃ u', mx_go sL sx eX12_feed.2.2.2 39 (18, [(6, .int 8), (7, .int z), (0, .ref 66), (1, .int a), (2, .int b), (3, .int c), (4, .int d), (5, .int e)], [], p1_H f t 8 u, 0, 0) = some (18, [(6, .int 9), (7, .int c), (0, .ref 66), (1, .int a), (2, .int b), (3, .int c), (4, .int d), (5, .int e)], [], p1_H f t 9 u', 0, 0) := ⟨_, rfl⟩
set_option maxRecDepth 100000 in
set_option maxHeartbeats 4000000 in
theorem p1_m_9 (sL : Nat) (sx : Nat → Int32) (z a b c d e : Int32) (f : Int32) (t : Nat → Int32) (u : Nat → Int32) : ∃ u', mx_go sL sx eX12_feed.2.2.2 39 (18, [(6, .int 9), (7, .int z), (0, .ref 66), (1, .int a), (2, .int b), (3, .int c), (4, .int d), (5, .int e)], [], p1_H f t 9 u, 0, 0) = some (18, [(6, .int 10), (7, .int c), (0, .ref 66), (1, .int a), (2, .int b), (3, .int c), (4, .int d), (5, .int e)], [], p1_H f t 10 u', 0, 0) := ⟨_, rfl⟩
set_option maxRecDepth 100000 in
set_option maxHeartbeats 4000000 in
theorem p1_m_10 (sL : Nat) (sx : Nat → Int32) (z a b c d e : Int32) (f : Int32) (t : Nat → Int32) (u : Nat → Int32) : ∃ u', mx_go sL sx eX12_feed.2.2.2 39 (18, [(6, .int 10), (7, .int z), (0, .ref 66), (1, .int a), (2, .int b), (3, .int c), (4, .int d), (5, .int e)], [], p1_H f t 10 u, 0, 0) = some (18, [(6, .int 11), (7, .int c), (0, .ref 66), (1, .int a), (2, .int b), (3, .int c), (4, .int d), (5, .int e)], [], p1_H f t 11 u', 0, 0) := ⟨_, rfl⟩
set_option maxRecDepth 100000 in
set_option maxHeartbeats 4000000 in
theorem p1_m_11 (sL : Nat) (sx : Nat → Int32) (z a b c d e : Int32) (f : Int32) (t : Nat → Int32) (u : Nat → Int32) : ∃ u', mx_go sL sx eX12_feed.2.2.2 39 (18, [(6, .int 11), (7, .int z), (0, .ref 66), (1, .int a), (2, .int b), (3, .int c), (4, .int d), (5, .int e)], [], p1_H f t 11 u, 0, 0) = some (18, [(6, .int 12), (7, .int c), (0, .ref 66), (1, .int a), (2, .int b), (3, .int c), (4, .int d), (5, .int e)], [], p1_H f t 12 u', 0, 0) := ⟨_, rfl⟩
set_option maxRecDepth 100000 in
set_option maxHeartbeats 4000000 in
theorem p1_m_12 (sL : Nat) (sx : Nat → Int32) (z a b c d e : Int32) (f : Int32) (t : Nat → Int32) (u : Nat → Int32) : ∃ u', mx_go sL sx eX12_feed.2.2.2 42 (18, [(6, .int 12), (7, .int z), (0, .ref 66), (1, .int a), (2, .int b), (3, .int c), (4, .int d), (5, .int e)], [], p1_H f t 12 u, 0, 0) = some (18, [(6, .int 13), (7, .int d), (0, .ref 66), (1, .int a), (2, .int b), (3, .int c), (4, .int d), (5, .int e)], [], p1_H f t 13 u', 0, 0) := ⟨_, rfl⟩
set_option maxRecDepth 100000 in
set_option maxHeartbeats 4000000 in
theorem p1_m_13 (sL : Nat) (sx : Nat → Int32) (z a b c d e : Int32) (f : Int32) (t : Nat → Int32) (u : Nat → Int32) : ∃ u', mx_go sL sx eX12_feed.2.2.2 42 (18, [(6, .int 13), (7, .int z), (0, .ref 66), (1, .int a), (2, .int b), (3, .int c), (4, .int d), (5, .int e)], [], p1_H f t 13 u, 0, 0) = some (18, [(6, .int 14), (7, .int d), (0, .ref 66), (1, .int a), (2, .int b), (3, .int c), (4, .int d), (5, .int e)], [], p1_H f t 14 u', 0, 0) := ⟨_, rfl⟩
set_option maxRecDepth 100000 in
set_option maxHeartbeats 4000000 in
theorem p1_m_14 (sL : Nat) (sx : Nat → Int32) (z a b c d e : Int32) (f : Int32) (t : Nat → Int32) (u : Nat → Int32) : ∃ u', mx_go sL sx eX12_feed.2.2.2 42 (18, [(6, .int 14), (7, .int z), (0, .ref 66), (1, .int a), (2, .int b), (3, .int c), (4, .int d), (5, .int e)], [], p1_H f t 14 u, 0, 0) = some (18, [(6, .int 15), (7, .int d), (0, .ref 66), (1, .int a), (2, .int b), (3, .int c), (4, .int d), (5, .int e)], [], p1_H f t 15 u', 0, 0) := ⟨_, rfl⟩
set_option maxRecDepth 100000 in
set_option maxHeartbeats 4000000 in
theorem p1_m_15 (sL : Nat) (sx : Nat → Int32) (z a b c d e : Int32) (f : Int32) (t : Nat → Int32) (u : Nat → Int32) : ∃ u', mx_go sL sx eX12_feed.2.2.2 42 (18, [(6, .int 15), (7, .int z), (0, .ref 66), (1, .int a), (2, .int b), (3, .int c), (4, .int d), (5, .int e)], [], p1_H f t 15 u, 0, 0) = some (18, [(6, .int 16), (7, .int d), (0, .ref 66), (1, .int a), (2, .int b), (3, .int c), (4, .int d), (5, .int e)], [], p1_H f t 16 u', 0, 0) := ⟨_, rfl⟩
set_option maxRecDepth 100000 in
set_option maxHeartbeats 4000000 in
theorem p1_m_16 (sL : Nat) (sx : Nat → Int32) (z a b c d e : Int32) (f : Int32) (t : Nat → Int32) (u : Nat → Int32) : ∃ u', mx_go sL sx eX12_feed.2.2.2 41 (18, [(6, .int 16), (7, .int z), (0, .ref 66), (1, .int a), (2, .int b), (3, .int c), (4, .int d), (5, .int e)], [], p1_H f t 16 u, 0, 0) = some (18, [(6, .int 17), (7, .int e), (0, .ref 66), (1, .int a), (2, .int b), (3, .int c), (4, .int d), (5, .int e)], [], p1_H f t 17 u', 0, 0) := ⟨_, rfl⟩
set_option maxRecDepth 100000 in
set_option maxHeartbeats 4000000 in
theorem p1_m_17 (sL : Nat) (sx : Nat → Int32) (z a b c d e : Int32) (f : Int32) (t : Nat → Int32) (u : Nat → Int32) : ∃ u', mx_go sL sx eX12_feed.2.2.2 41 (18, [(6, .int 17), (7, .int z), (0, .ref 66), (1, .int a), (2, .int b), (3, .int c), (4, .int d), (5, .int e)], [], p1_H f t 17 u, 0, 0) = some (18, [(6, .int 18), (7, .int e), (0, .ref 66), (1, .int a), (2, .int b), (3, .int c), (4, .int d), (5, .int e)], [], p1_H f t 18 u', 0, 0) := ⟨_, rfl⟩
set_option maxRecDepth 100000 in
set_option maxHeartbeats 4000000 in
theorem p1_m_18 (sL : Nat) (sx : Nat → Int32) (z a b c d e : Int32) (f : Int32) (t : Nat → Int32) (u : Nat → Int32) : ∃ u', mx_go sL sx eX12_feed.2.2.2 41 (18, [(6, .int 18), (7, .int z), (0, .ref 66), (1, .int a), (2, .int b), (3, .int c), (4, .int d), (5, .int e)], [], p1_H f t 18 u, 0, 0) = some (18, [(6, .int 19), (7, .int e), (0, .ref 66), (1, .int a), (2, .int b), (3, .int c), (4, .int d), (5, .int e)], [], p1_H f t 19 u', 0, 0) := ⟨_, rfl⟩
set_option maxRecDepth 100000 in
set_option maxHeartbeats 4000000 in
theorem p1_m_19 (sL : Nat) (sx : Nat → Int32) (z a b c d e : Int32) (f : Int32) (t : Nat → Int32) (u : Nat → Int32) : ∃ u', mx_go sL sx eX12_feed.2.2.2 41 (18, [(6, .int 19), (7, .int z), (0, .ref 66), (1, .int a), (2, .int b), (3, .int c), (4, .int d), (5, .int e)], [], p1_H f t 19 u, 0, 0) = some (18, [(6, .int 20), (7, .int e), (0, .ref 66), (1, .int a), (2, .int b), (3, .int c), (4, .int d), (5, .int e)], [], p1_H f t 20 u', 0, 0) := ⟨_, rfl⟩
