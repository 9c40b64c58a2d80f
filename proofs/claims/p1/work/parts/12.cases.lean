/-! ===== one call on fresh objects: those whose course does not hang on the ints ===== -/
set_option maxRecDepth 100000 in
theorem p1_case_10 (xs : Nat → Int32) : ∃ hp' : List va_E, mx_run 6 xs mx_pg 3000 2048 48 33 [(3, .int 0), (2, .ref 66), (1, .ref 0), (0, .ref 1000000)] [.int (nI 10)] (p1_D ++ p1_M) 125 2538871 = some (some (.int 1), hp', 125, 2538871) := ⟨_, rfl⟩
set_option maxRecDepth 100000 in
theorem p1_case_11 (xs : Nat → Int32) : ∃ hp' : List va_E, mx_run 6 xs mx_pg 3000 2048 48 33 [(3, .int 0), (2, .ref 66), (1, .ref 0), (0, .ref 1000000)] [.int (nI 11)] (p1_D ++ p1_M) 125 2538871 = some (some (.int 1), hp', 125, 2538871) := ⟨_, rfl⟩
set_option maxRecDepth 100000 in
theorem p1_case_12 (xs : Nat → Int32) : ∃ hp' : List va_E, mx_run 6 xs mx_pg 3000 2048 48 33 [(3, .int 0), (2, .ref 66), (1, .ref 0), (0, .ref 1000000)] [.int (nI 12)] (p1_D ++ p1_M) 125 2538871 = some (some (.int 1), hp', 125, 2538871) := ⟨_, rfl⟩
set_option maxRecDepth 100000 in
theorem p1_case_13 (xs : Nat → Int32) : ∃ hp' : List va_E, mx_run 6 xs mx_pg 3000 2048 48 33 [(3, .int 0), (2, .ref 66), (1, .ref 0), (0, .ref 1000000)] [.int (nI 13)] (p1_D ++ p1_M) 125 2538871 = some (some (.int 1), hp', 125, 2538871) := ⟨_, rfl⟩
set_option maxRecDepth 100000 in
theorem p1_case_14 (xs : Nat → Int32) : ∃ hp' : List va_E, mx_run 6 xs mx_pg 3000 2048 48 33 [(3, .int 0), (2, .ref 66), (1, .ref 0), (0, .ref 1000000)] [.int (nI 14)] (p1_D ++ p1_M) 125 2538871 = some (some (.int 1), hp', 125, 2538871) := ⟨_, rfl⟩
set_option maxRecDepth 100000 in
theorem p1_case_15 (xs : Nat → Int32) : ∃ hp' : List va_E, mx_run 6 xs mx_pg 3000 2048 48 33 [(3, .int 0), (2, .ref 66), (1, .ref 0), (0, .ref 1000000)] [.int (nI 15)] (p1_D ++ p1_M) 125 2538871 = some (some (.int 1), hp', 125, 2538871) := ⟨_, rfl⟩
set_option maxRecDepth 100000 in
theorem p1_case_3 (xs : Nat → Int32) : ∃ hp' : List va_E, mx_run 6 xs mx_pg 3000 2048 48 33 [(3, .int 0), (2, .ref 66), (1, .ref 0), (0, .ref 1000000)] [.int (nI 3)] (p1_D ++ p1_M) 125 2538871 = some (some (.int 1), hp', 125, 2538871) := ⟨_, rfl⟩
set_option maxRecDepth 100000 in
theorem p1_case_4 (xs : Nat → Int32) : ∃ hp' : List va_E, mx_run 6 xs mx_pg 3000 2048 48 33 [(3, .int 0), (2, .ref 66), (1, .ref 0), (0, .ref 1000000)] [.int (nI 4)] (p1_D ++ p1_M) 125 2538871 = some (some (.int 1), hp', 125, 2538871) := ⟨_, rfl⟩
set_option maxRecDepth 100000 in
theorem p1_case_5 (xs : Nat → Int32) : ∃ hp' : List va_E, mx_run 6 xs mx_pg 3000 2048 48 33 [(3, .int 0), (2, .ref 66), (1, .ref 0), (0, .ref 1000000)] [.int (nI 5)] (p1_D ++ p1_M) 125 2538871 = some (some (.int 1), hp', 125, 2538871) := ⟨_, rfl⟩
set_option maxRecDepth 100000 in
theorem p1_case_6 (xs : Nat → Int32) : ∃ hp' : List va_E, mx_run 6 xs mx_pg 3000 2048 48 33 [(3, .int 0), (2, .ref 66), (1, .ref 0), (0, .ref 1000000)] [.int (nI 6)] (p1_D ++ p1_M) 125 2538871 = some (some (.int 1), hp', 125, 2538871) := ⟨_, rfl⟩
set_option maxRecDepth 100000 in
theorem p1_case_7 (xs : Nat → Int32) : ∃ hp' : List va_E, mx_run 6 xs mx_pg 3000 2048 48 33 [(3, .int 0), (2, .ref 66), (1, .ref 0), (0, .ref 1000000)] [.int (nI 7)] (p1_D ++ p1_M) 125 2538871 = some (some (.int 1), hp', 125, 2538871) := ⟨_, rfl⟩
set_option maxRecDepth 100000 in
theorem p1_case_8 (xs : Nat → Int32) : ∃ hp' : List va_E, mx_run 6 xs mx_pg 3000 2048 48 33 [(3, .int 0), (2, .ref 66), (1, .ref 0), (0, .ref 1000000)] [.int (nI 8)] (p1_D ++ p1_M) 125 2538871 = some (some (.int 1), hp', 125, 2538871) := ⟨_, rfl⟩
set_option maxRecDepth 100000 in
theorem p1_case_9 (xs : Nat → Int32) : ∃ hp' : List va_E, mx_run 6 xs mx_pg 3000 2048 48 33 [(3, .int 0), (2, .ref 66), (1, .ref 0), (0, .ref 1000000)] [.int (nI 9)] (p1_D ++ p1_M) 125 2538871 = some (some (.int 1), hp', 125, 2538871) := ⟨_, rfl⟩
