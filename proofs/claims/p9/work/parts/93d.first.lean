/-! ===== what the constructors leave: the first state ===== -/
def p2_D : List va_E := [
  .inr (11, [.ref 1, .int 0, .int 0, .int (-1), .int (-1), .int (-1), .ref 2, .ref 7, .ref 18, .ref 38, .ref 55]),
  .inl (0, 240, .inl (fun _ => 0)),
  .inr (8, [.ref 3, .ref 4, .ref 5, .ref 6, .int 0, .int 0]),
  .inl (0, 240, .inl (fun _ => 0)),
  .inl (0, 240, .inl (fun _ => 0)),
  .inl (0, 240, .inl (fun _ => 0)),
  .inl (0, 240, .inl (fun _ => 0)),
  .inr (2, [.ref 2, .int 0]),
  .inr (9, [.ref 9, .ref 10, .int 2]),
  .inl (0, 256, .inl (fun _ => 0)),
  .inl (0, 256, .inl (fun _ => 0)),
  .inr (7, [.ref 8, .ref 12, .ref 13, .ref 14, .ref 15, .ref 16, .int 0, .ref 17, .int 0]),
  .inl (0, 1024, .inl (fun _ => 0)),
  .inl (0, 1024, .inl (fun _ => 0)),
  .inl (0, 1024, .inl (fun _ => 0)),
  .inl (0, 1024, .inl (fun _ => 0)),
  .inl (0, 1024, .inl (fun _ => 0)),
  .inl (0, 512, .inl (fun _ => 0)),
  .inr (1, [.ref 2, .ref 8, .ref 11, .ref 19, .ref 22, .ref 25, .ref 26, .ref 27, .ref 28, .int 0, .int 0, .int 0, .int 0, .int 0, .int 0]),
  .inr (4, [.ref 20, .ref 21, .int 0]),
  .inl (0, 8, .inl (fun _ => 0)),
  .inl (0, 8, .inl (fun _ => 0)),
  .inr (4, [.ref 23, .ref 24, .int 0]),
  .inl (0, 5, .inl (fun _ => 0)),
  .inl (0, 5, .inl (fun _ => 0)),
  .inl (0, 5, .inl (fun _ => 0)),
  .inl (0, 8, .inl (fun _ => 0)),
  .inl (0, 21, .inl (fun _ => 0)),
  .inl (0, 21, .inl (fun _ => 0)),
  .inr (3, [.ref 30, .ref 31, .ref 32, .int 0]),
  .inl (0, 1024, .inl (fun _ => 0)),
  .inl (0, 1024, .inl (fun _ => 0)),
  .inl (0, 1024, .inl (fun _ => 0)),
  .inr (0, [.ref 11, .ref 29, .ref 34, .ref 35, .ref 36, .ref 37, .int 0, .int 0, .int 0]),
  .inl (0, 32, .inl (fun _ => 0)),
  .inl (0, 32, .inl (fun _ => 0)),
  .inl (0, 128, .inl (fun _ => 0)),
  .inl (0, 128, .inl (fun _ => 0)),
  .inr (6, [.ref 11, .ref 29, .ref 33, .ref 39, .ref 46, .ref 53, .ref 54, .int 0, .int 0, .int 0, .int 0, .int 0, .int 0]),
  .inr (5, [.ref 40, .ref 41, .ref 42, .ref 43, .ref 44, .ref 45, .int 0]),
  .inl (0, 512, .inl (fun _ => 0)),
  .inl (0, 512, .inl (fun _ => 0)),
  .inl (0, 512, .inl (fun _ => 0)),
  .inl (0, 512, .inl (fun _ => 0)),
  .inl (0, 512, .inl (fun _ => 0)),
  .inl (0, 512, .inl (fun _ => 0)),
  .inr (5, [.ref 47, .ref 48, .ref 49, .ref 50, .ref 51, .ref 52, .int 0]),
  .inl (0, 512, .inl (fun _ => 0)),
  .inl (0, 512, .inl (fun _ => 0)),
  .inl (0, 512, .inl (fun _ => 0)),
  .inl (0, 512, .inl (fun _ => 0)),
  .inl (0, 512, .inl (fun _ => 0)),
  .inl (0, 512, .inl (fun _ => 0)),
  .inl (0, 32, .inl (fun _ => 0)),
  .inl (0, 4, .inl (fun _ => 0)),
  .inr (10, [.ref 18, .ref 8, .ref 11, .ref 29, .ref 33, .ref 56, .ref 63, .ref 64, .int 0, .ref 65, .int 0, .int (-1)]),
  .inr (5, [.ref 57, .ref 58, .ref 59, .ref 60, .ref 61, .ref 62, .int 0]),
  .inl (0, 512, .inl (fun _ => 0)),
  .inl (0, 512, .inl (fun _ => 0)),
  .inl (0, 512, .inl (fun _ => 0)),
  .inl (0, 512, .inl (fun _ => 0)),
  .inl (0, 512, .inl (fun _ => 0)),
  .inl (0, 512, .inl (fun _ => 0)),
  .inl (0, 32, .inl (fun _ => 0)),
  .inl (0, 128, .inl (fun _ => 0)),
  .inl (0, 4000, .inl (fun _ => 0))]
def p2_M : List va_E := [
  .inr (12, [.ref 67, .int 0, .ref 68, .int 0, .ref 69, .ref 70, .ref 71, .int 0, .int 0, .int 0, .ref 72, .ref 73, .int 0, .ref 74, .ref 75, .ref 76, .ref 77, .ref 78, .ref 79, .ref 80, .ref 81, .ref 82, .ref 83, .ref 84, .int 0, .ref 85, .ref 86, .ref 87, .ref 88, .ref 89, .ref 90, .ref 91, .ref 92, .int 0, .int 0, .ref 93, .ref 94, .int 0, .int (-1), .int (-1), .int 0, .int 0, .int 0, .ref 95, .ref 96, .int 0, .ref 97, .int 0, .ref 98, .ref 99, .int 0, .ref 100, .ref 101, .ref 102, .ref 103, .ref 104, .int 0, .ref 105, .int 0, .ref 106, .ref 107, .int 0, .ref 108, .ref 109, .int 0, .ref 110, .ref 111, .ref 112, .ref 113, .ref 114, .int 0, .int 0, .ref 115, .ref 116, .ref 117, .int 0, .int 0, .int 0, .int 0, .int 0, .ref 118, .ref 119, .ref 120, .int 0, .ref 121, .ref 122, .int 0, .ref 123, .ref 124, .int 0]),
  .inl (0, 240, .inl (fun _ => 0)),
  .inl (0, 240, .inl (fun _ => 0)),
  .inl (0, 242, .inl (fun _ => 0)),
  .inl (0, 242, .inl (fun _ => 0)),
  .inl (0, 242, .inl (fun _ => 0)),
  .inl (0, 6000, .inl (fun _ => 0)),
  .inl (0, 6000, .inl (fun _ => 0)),
  .inl (0, 600, .inl (fun _ => 0)),
  .inl (0, 600, .inl (fun _ => 0)),
  .inl (0, 600, .inl (fun _ => 0)),
  .inl (0, 600, .inl (fun _ => 0)),
  .inl (0, 600, .inl (fun _ => 0)),
  .inl (0, 600, .inl (fun _ => 0)),
  .inl (0, 600, .inl (fun _ => 0)),
  .inl (0, 600, .inl (fun _ => 0)),
  .inl (0, 600, .inl (fun _ => 0)),
  .inl (0, 600, .inl (fun _ => 0)),
  .inl (0, 600, .inl (fun _ => 0)),
  .inl (0, 60, .inl (fun _ => 0)),
  .inl (0, 60, .inl (fun _ => 0)),
  .inl (0, 60, .inl (fun _ => 0)),
  .inl (0, 60, .inl (fun _ => 0)),
  .inl (0, 60, .inl (fun _ => 0)),
  .inl (0, 60, .inl (fun _ => 0)),
  .inl (0, 60, .inl (fun _ => 0)),
  .inl (0, 60, .inl (fun _ => 0)),
  .inl (0, 60, .inl (fun _ => 0)),
  .inl (0, 60, .inl (fun _ => 0)),
  .inl (0, 8, .inl (fun _ => 0)),
  .inl (0, 8, .inl (fun _ => 0)),
  .inl (0, 5, .inl (fun _ => 0)),
  .inl (0, 4, .inl (fun _ => 0)),
  .inl (0, 4, .inl (fun _ => 0)),
  .inl (0, 60000, .inl (fun _ => 0)),
  .inl (0, 60000, .inl (fun _ => 0)),
  .inl (0, 60000, .inl (fun _ => 0)),
  .inl (0, 60000, .inl (fun _ => 0)),
  .inl (0, 60000, .inl (fun _ => 0)),
  .inl (0, 120000, .inl (fun _ => 0)),
  .inl (0, 400000, .inl (fun _ => 0)),
  .inl (0, 400000, .inl (fun _ => 0)),
  .inl (0, 3000, .inl (fun _ => 0)),
  .inl (0, 3000, .inl (fun _ => 0)),
  .inl (0, 20000, .inl (fun _ => 0)),
  .inl (1, 3000, .inl (fun _ => 0)),
  .inl (0, 3000, .inl (fun _ => 0)),
  .inl (0, 3000, .inl (fun _ => 0)),
  .inl (0, 3000, .inl (fun _ => 0)),
  .inl (0, 400000, .inl (fun _ => 0)),
  .inl (0, 400000, .inl (fun _ => 0)),
  .inl (0, 400000, .inl (fun _ => 0)),
  .inl (0, 3000, .inl (fun _ => 0)),
  .inl (1, 3000, .inl (fun _ => 0)),
  .inl (0, 3000, .inl (fun _ => 0)),
  .inl (0, 20000, .inl (fun _ => 0)),
  .inl (0, 4001, .inl (fun _ => 0)),
  .inl (0, 5, .inl (fun _ => 0)),
  .inl (1, 3000, .inl (fun _ => 0))]
set_option maxRecDepth 100000 in
theorem p2_ctorD (sL : Nat) (sx : Nat → Int32) : mx_run sL sx mx_pg 2000 2047 136 0 [(0, .ref 0)] [] [.inr (11, [.null, .int 0, .int 0, .int 0, .int 0, .int 0, .null, .null, .null, .null, .null])] 0 0 = some (none, p2_D, 65, 24329) := rfl
set_option maxRecDepth 100000 in
theorem p2_ctorM (sL : Nat) (sx : Nat → Int32) : mx_run sL sx mx_pg 2000 2047 149 0 [(0, .ref 66)] [] (p2_D ++ [.inr (12, [.null, .int 0, .null, .int 0, .null, .null, .null, .int 0, .int 0, .int 0, .null, .null, .int 0, .null, .null, .null, .null, .null, .null, .null, .null, .null, .null, .null, .int 0, .null, .null, .null, .null, .null, .null, .null, .null, .int 0, .int 0, .null, .null, .int 0, .int 0, .int 0, .int 0, .int 0, .int 0, .null, .null, .int 0, .null, .int 0, .null, .null, .int 0, .null, .null, .null, .null, .null, .int 0, .null, .int 0, .null, .null, .int 0, .null, .null, .int 0, .null, .null, .null, .null, .null, .int 0, .int 0, .null, .null, .null, .int 0, .int 0, .int 0, .int 0, .int 0, .null, .null, .null, .int 0, .null, .null, .int 0, .null, .null, .int 0])]) 0 0 = some (none, p2_D ++ p2_M, 58, 2514441) := rfl
theorem p2_law : mx_pg[230]? = some eL_law := rfl
set_option maxRecDepth 100000 in
theorem p2_pre {sL : Nat} {sx : Nat → Int32} {r : Option Value × List va_E × Nat × Nat} (h : mx_ends sL sx mx_pg 2048 230 18 [(3, .int 0), (2, .ref 66), (1, .ref 0), (0, .ref 1000000)] [] (p2_D ++ p2_M) 125 2538871 r) : mx_ends sL sx mx_pg 2048 230 0 [(0, .ref 1000000)] [] [] 0 0 r := by
  refine mx_ends_go p2_law 2 (0, [(0, .ref 1000000)], [], [], 0, 0) (4, [(0, .ref 1000000)], [.ref 0, .ref 0], [.inr (11, [.null, .int 0, .int 0, .int 0, .int 0, .int 0, .null, .null, .null, .null, .null])], 1, 11) rfl ?_
  refine mx_ends_I (r1 := (none, p2_D, 65, 24329)) (i := 0) (rest := [.ref 0]) p2_law rfl rfl rfl rfl rfl ⟨2000, p2_ctorD sL sx⟩ ?_
  refine mx_ends_go p2_law 3 (7, [(0, .ref 1000000)], [.ref 0], p2_D, 66, 24340) (12, [(1, .ref 0), (0, .ref 1000000)], [.ref 66, .ref 66], p2_D ++ [.inr (12, [.null, .int 0, .null, .int 0, .null, .null, .null, .int 0, .int 0, .int 0, .null, .null, .int 0, .null, .null, .null, .null, .null, .null, .null, .null, .null, .null, .null, .int 0, .null, .null, .null, .null, .null, .null, .null, .null, .int 0, .int 0, .null, .null, .int 0, .int 0, .int 0, .int 0, .int 0, .int 0, .null, .null, .int 0, .null, .int 0, .null, .null, .int 0, .null, .null, .null, .null, .null, .int 0, .null, .int 0, .null, .null, .int 0, .null, .null, .int 0, .null, .null, .null, .null, .null, .int 0, .int 0, .null, .null, .null, .int 0, .int 0, .int 0, .int 0, .int 0, .null, .null, .null, .int 0, .null, .null, .int 0, .null, .null, .int 0])], 67, 24430) rfl ?_
  refine mx_ends_I (r1 := (none, p2_D ++ p2_M, 58, 2514441)) (i := 66) (rest := [.ref 66]) p2_law rfl rfl rfl rfl rfl ⟨2000, p2_ctorM sL sx⟩ ?_
  exact mx_ends_go p2_law 3 (15, [(1, .ref 0), (0, .ref 1000000)], [.ref 66], p2_D ++ p2_M, 125, 2538871) (18, [(3, .int 0), (2, .ref 66), (1, .ref 0), (0, .ref 1000000)], [], p2_D ++ p2_M, 125, 2538871) rfl h
/-- the first state: all zero, but for seven fields -/
def p2_s0 : sx_S := (sx_uf (sx_uf (sx_uf (sx_uf (sx_uf (sx_uf (sx_uf (fun _ _ => 0) 0 3 (-1)) 0 4 (-1)) 0 5 (-1)) 8 2 2) 55 11 (-1)) 66 38 (-1)) 66 39 (-1), fun _ _ => 0, fun _ _ => 0, 0)
set_option maxRecDepth 100000 in
theorem p2_hp : p2_D ++ p2_M = sx_hp p2_s0 := rfl
theorem p2_uf {F : Nat → Nat → Int} {p k : Nat} {v : Int} (h : ∀ a j, -1 ≤ F a j ∧ F a j ≤ 2) (hv : -1 ≤ v ∧ v ≤ 2) : ∀ a j, -1 ≤ sx_uf F p k v a j ∧ sx_uf F p k v a j ≤ 2 := by
  intro a j
  rw [sx_uf_if]
  split
  · exact hv
  · exact h a j
theorem p2_s0_b : ∀ a j, -1 ≤ p2_s0.1 a j ∧ p2_s0.1 a j ≤ 2 := by
  refine p2_uf (p2_uf (p2_uf (p2_uf (p2_uf (p2_uf (p2_uf (fun _ _ => ⟨by decide, by decide⟩) ?_) ?_) ?_) ?_) ?_) ?_) ?_ <;> exact ⟨by decide, by decide⟩
theorem p2_lk1 {F : Nat → Nat → Int} {p k : Nat} (hF : -2147483648 ≤ F p k ∧ F p k ≤ 2147483647) : ∀ l : List (Nat × Nat × Int × Int), (∀ q ∈ l, q.2.2.1 ≤ F q.1 q.2.1 ∧ F q.1 q.2.1 ≤ q.2.2.2) → (cx_lk1 l p k).1 ≤ F p k ∧ F p k ≤ (cx_lk1 l p k).2
  | [], _ => hF
  | q :: l, h => by
    unfold cx_lk1
    cases hb : (Nat.beq q.1 p && Nat.beq q.2.1 k) with
    | true =>
      rw [Bool.and_eq_true] at hb
      have e1 : q.1 = p := Nat.eq_of_beq_eq_true hb.1
      have e2 : q.2.1 = k := Nat.eq_of_beq_eq_true hb.2
      have := h q List.mem_cons_self
      rw [e1, e2] at this
      exact this
    | false => exact p2_lk1 hF l (fun x hx => h x (List.mem_cons_of_mem _ hx))
theorem p2_lk2 {p : Nat} : ∀ l : List (Nat × Int × Int), (∀ q ∈ l, q.2.1 ≤ 0 ∧ 0 ≤ q.2.2) → (cx_lk2 l p).1 ≤ 0 ∧ 0 ≤ (cx_lk2 l p).2
  | [], _ => ⟨(by decide : (-2147483648 : Int) ≤ 0), (by decide : (0 : Int) ≤ 2147483647)⟩
  | q :: l, h => by
    unfold cx_lk2
    cases hb : Nat.beq q.1 p with
    | true => exact h q List.mem_cons_self
    | false => exact p2_lk2 l (fun x hx => h x (List.mem_cons_of_mem _ hx))
theorem p2_s0_I : cx_I p2_s0 := by
  intro b p j hp
  have hb := p2_s0_b p j
  match b with
  | 0 =>
    show (cx_rng p j).1 ≤ p2_s0.1 p j ∧ p2_s0.1 p j ≤ (cx_rng p j).2
    unfold cx_rng
    cases Nat.blt p 66 with
    | true => exact p2_lk1 ⟨by omega, by omega⟩ cx_tab (by decide)
    | false => exact p2_lk1 ⟨by omega, by omega⟩ cx_tabR (by decide)
  | 1 =>
    show (cx_arg p).1 ≤ 0 ∧ 0 ≤ (cx_arg p).2
    unfold cx_arg
    cases Nat.blt p 66 with
    | true => exact p2_lk2 cx_atab (by decide)
    | false => exact p2_lk2 cx_atabR (by decide)
  | _ + 2 =>
    intro _
    exact Int.le_refl 0
theorem p2_s0_BC : rf_BC p2_s0 := ⟨p2_s0_I, fun h => absurd rfl h, fun h => absurd rfl h⟩
/-- every script ends with 1, within the room -/
theorem p2_good {sL : Nat} {sx : Nat → Int32} (hsL : sL ≤ 3072) : ∃ (hp' : List va_E) (c' s' : Nat), mx_ends sL sx mx_pg 2048 230 0 [(0, .ref 1000000)] [] [] 0 0 (some (.int 1), hp', c', s') ∧ c' ≤ 600000 ∧ s' ≤ 7302250 := by
  have h := rf_law (sx := sx) hsL p2_s0 p2_s0_BC rfl rfl rfl ⟨fun _ => 0, 0, [], rfl, fun h => absurd rfl h, fun _ => rfl⟩
  have h' := sx_E.more (ls := [(3, .inl 0), (2, .inr (.inl 66)), (1, .inr (.inl 0)), (0, .inr (.inl 1000000))]) h (fun i v q => by
    match i with
    | 0 => exact q
    | 1 => exact q
    | 2 => exact q
    | 3 => exact q
    | _ + 4 => cases q)
  obtain ⟨z, t, h1, h2, h3, h4⟩ := h' (Nat.zero_le _) eL_law p2_law 125 2538871
  subst h4
  rw [← p2_hp] at h1
  have e0 : t.2.2.2 - p2_s0.2.2.2 ≤ 500000 := Nat.le_trans (Nat.sub_le _ _) h3
  exact ⟨_, _, _, p2_pre h1, by omega, by omega⟩
