section
/-! ===== what the constructors leave: the first state ===== -/
def p2_D : List va_E := [
  .inr (11, [.ref 1, .int 0, .int 0, .int (-1), .int (-1), .int (-1), .ref 2, .ref 7, .ref 18, .ref 38, .ref 55]),
  .inl (0, 240, .inl (fun _ => 0)),
  .inr (8, [.ref 3, .ref 4, .ref 5, .ref 6, .int 0, .int 0]),
  .inl (0, 240, .inl (fun _ => 0)),
  .inl (0, 240, .inl (fun _ => 0)),
  .inl (0, 240, .inl (fun _ => 0)),
  .inl (0, 240, .inl (fun _ => 0)),
  .inr (2, [.ref 2, .int 0]),
  .inr (9, [.ref 9, .ref 10, .int 2]),
  .inl (0, 256, .inl (fun _ => 0)),
  .inl (0, 256, .inl (fun _ => 0)),
  .inr (7, [.ref 8, .ref 12, .ref 13, .ref 14, .ref 15, .ref 16, .int 0, .ref 17, .int 0]),
  .inl (0, 1024, .inl (fun _ => 0)),
  .inl (0, 1024, .inl (fun _ => 0)),
  .inl (0, 1024, .inl (fun _ => 0)),
  .inl (0, 1024, .inl (fun _ => 0)),
  .inl (0, 1024, .inl (fun _ => 0)),
  .inl (0, 512, .inl (fun _ => 0)),
  .inr (1, [.ref 2, .ref 8, .ref 11, .ref 19, .ref 22, .ref 25, .ref 26, .ref 27, .ref 28, .int 0, .int 0, .int 0, .int 0, .int 0, .int 0]),
  .inr (4, [.ref 20, .ref 21, .int 0]),
  .inl (0, 8, .inl (fun _ => 0)),
  .inl (0, 8, .inl (fun _ => 0)),
  .inr (4, [.ref 23, .ref 24, .int 0]),
  .inl (0, 5, .inl (fun _ => 0)),
  .inl (0, 5, .inl (fun _ => 0)),
  .inl (0, 5, .inl (fun _ => 0)),
  .inl (0, 8, .inl (fun _ => 0)),
  .inl (0, 21, .inl (fun _ => 0)),
  .inl (0, 21, .inl (fun _ => 0)),
  .inr (3, [.ref 30, .ref 31, .ref 32, .int 0]),
  .inl (0, 1024, .inl (fun _ => 0)),
  .inl (0, 1024, .inl (fun _ => 0)),
  .inl (0, 1024, .inl (fun _ => 0)),
  .inr (0, [.ref 11, .ref 29, .ref 34, .ref 35, .ref 36, .ref 37, .int 0, .int 0, .int 0]),
  .inl (0, 32, .inl (fun _ => 0)),
  .inl (0, 32, .inl (fun _ => 0)),
  .inl (0, 128, .inl (fun _ => 0)),
  .inl (0, 128, .inl (fun _ => 0)),
  .inr (6, [.ref 11, .ref 29, .ref 33, .ref 39, .ref 46, .ref 53, .ref 54, .int 0, .int 0, .int 0, .int 0, .int 0, .int 0]),
  .inr (5, [.ref 40, .ref 41, .ref 42, .ref 43, .ref 44, .ref 45, .int 0]),
  .inl (0, 512, .inl (fun _ => 0)),
  .inl (0, 512, .inl (fun _ => 0)),
  .inl (0, 512, .inl (fun _ => 0)),
  .inl (0, 512, .inl (fun _ => 0)),
  .inl (0, 512, .inl (fun _ => 0)),
  .inl (0, 512, .inl (fun _ => 0)),
  .inr (5, [.ref 47, .ref 48, .ref 49, .ref 50, .ref 51, .ref 52, .int 0]),
  .inl (0, 512, .inl (fun _ => 0)),
  .inl (0, 512, .inl (fun _ => 0)),
  .inl (0, 512, .inl (fun _ => 0)),
  .inl (0, 512, .inl (fun _ => 0)),
  .inl (0, 512, .inl (fun _ => 0)),
  .inl (0, 512, .inl (fun _ => 0)),
  .inl (0, 32, .inl (fun _ => 0)),
  .inl (0, 4, .inl (fun _ => 0)),
  .inr (10, [.ref 18, .ref 8, .ref 11, .ref 29, .ref 33, .ref 56, .ref 63, .ref 64, .int 0, .ref 65, .int 0, .int (-1)]),
  .inr (5, [.ref 57, .ref 58, .ref 59, .ref 60, .ref 61, .ref 62, .int 0]),
  .inl (0, 512, .inl (fun _ => 0)),
  .inl (0, 512, .inl (fun _ => 0)),
  .inl (0, 512, .inl (fun _ => 0)),
  .inl (0, 512, .inl (fun _ => 0)),
  .inl (0, 512, .inl (fun _ => 0)),
  .inl (0, 512, .inl (fun _ => 0)),
  .inl (0, 32, .inl (fun _ => 0)),
  .inl (0, 128, .inl (fun _ => 0)),
  .inl (0, 4000, .inl (fun _ => 0))]
def p2_M : List va_E := [
  .inr (12, [.ref 67, .int 0, .ref 68, .int 0, .ref 69, .ref 70, .ref 71, .int 0, .int 0, .int 0, .ref 72, .ref 73, .int 0, .ref 74, .ref 75, .ref 76, .ref 77, .ref 78, .ref 79, .ref 80, .ref 81, .ref 82, .ref 83, .ref 84, .int 0, .ref 85, .ref 86, .ref 87, .ref 88, .ref 89, .ref 90, .ref 91, .ref 92, .int 0, .int 0, .ref 93, .ref 94, .int 0, .int (-1), .int (-1), .int 0, .int 0, .int 0, .ref 95, .ref 96, .int 0, .ref 97, .int 0, .ref 98, .ref 99, .int 0, .ref 100, .ref 101, .ref 102, .ref 103, .ref 104, .int 0, .ref 105, .int 0, .ref 106, .ref 107, .int 0, .ref 108, .ref 109, .int 0, .ref 110, .ref 111, .ref 112, .ref 113, .ref 114, .int 0, .int 0, .ref 115, .ref 116, .ref 117, .int 0, .int 0, .int 0, .int 0, .int 0, .ref 118, .ref 119, .ref 120, .int 0, .ref 121, .ref 122, .int 0, .ref 123, .ref 124, .int 0]),
  .inl (0, 240, .inl (fun _ => 0)),
  .inl (0, 240, .inl (fun _ => 0)),
  .inl (0, 242, .inl (fun _ => 0)),
  .inl (0, 242, .inl (fun _ => 0)),
  .inl (0, 242, .inl (fun _ => 0)),
  .inl (0, 6000, .inl (fun _ => 0)),
  .inl (0, 6000, .inl (fun _ => 0)),
  .inl (0, 600, .inl (fun _ => 0)),
  .inl (0, 600, .inl (fun _ => 0)),
  .inl (0, 600, .inl (fun _ => 0)),
  .inl (0, 600, .inl (fun _ => 0)),
  .inl (0, 600, .inl (fun _ => 0)),
  .inl (0, 600, .inl (fun _ => 0)),
  .inl (0, 600, .inl (fun _ => 0)),
  .inl (0, 600, .inl (fun _ => 0)),
  .inl (0, 600, .inl (fun _ => 0)),
  .inl (0, 600, .inl (fun _ => 0)),
  .inl (0, 600, .inl (fun _ => 0)),
  .inl (0, 60, .inl (fun _ => 0)),
  .inl (0, 60, .inl (fun _ => 0)),
  .inl (0, 60, .inl (fun _ => 0)),
  .inl (0, 60, .inl (fun _ => 0)),
  .inl (0, 60, .inl (fun _ => 0)),
  .inl (0, 60, .inl (fun _ => 0)),
  .inl (0, 60, .inl (fun _ => 0)),
  .inl (0, 60, .inl (fun _ => 0)),
  .inl (0, 60, .inl (fun _ => 0)),
  .inl (0, 60, .inl (fun _ => 0)),
  .inl (0, 8, .inl (fun _ => 0)),
  .inl (0, 8, .inl (fun _ => 0)),
  .inl (0, 5, .inl (fun _ => 0)),
  .inl (0, 4, .inl (fun _ => 0)),
  .inl (0, 4, .inl (fun _ => 0)),
  .inl (0, 60000, .inl (fun _ => 0)),
  .inl (0, 60000, .inl (fun _ => 0)),
  .inl (0, 60000, .inl (fun _ => 0)),
  .inl (0, 60000, .inl (fun _ => 0)),
  .inl (0, 60000, .inl (fun _ => 0)),
  .inl (0, 120000, .inl (fun _ => 0)),
  .inl (0, 400000, .inl (fun _ => 0)),
  .inl (0, 400000, .inl (fun _ => 0)),
  .inl (0, 3000, .inl (fun _ => 0)),
  .inl (0, 3000, .inl (fun _ => 0)),
  .inl (0, 20000, .inl (fun _ => 0)),
  .inl (1, 3000, .inl (fun _ => 0)),
  .inl (0, 3000, .inl (fun _ => 0)),
  .inl (0, 3000, .inl (fun _ => 0)),
  .inl (0, 3000, .inl (fun _ => 0)),
  .inl (0, 400000, .inl (fun _ => 0)),
  .inl (0, 400000, .inl (fun _ => 0)),
  .inl (0, 400000, .inl (fun _ => 0)),
  .inl (0, 3000, .inl (fun _ => 0)),
  .inl (1, 3000, .inl (fun _ => 0)),
  .inl (0, 3000, .inl (fun _ => 0)),
  .inl (0, 20000, .inl (fun _ => 0)),
  .inl (0, 4001, .inl (fun _ => 0)),
  .inl (0, 5, .inl (fun _ => 0)),
  .inl (1, 3000, .inl (fun _ => 0))]
set_option maxRecDepth 100000 in
theorem p2_ctorD (sL : Nat) (sx : Nat → Int32) : mx_run sL sx mx_pg 2000 2047 136 0 [(0, .ref 0)] [] [.inr (11, [.null, .int 0, .int 0, .int 0, .int 0, .int 0, .null, .null, .null, .null, .null])] 0 0 = some (none, p2_D, 65, 24329) := rfl
set_option maxRecDepth 100000 in
theorem p2_ctorM (sL : Nat) (sx : Nat → Int32) : mx_run sL sx mx_pg 2000 2047 149 0 [(0, .ref 66)] [] (p2_D ++ [.inr (12, [.null, .int 0, .null, .int 0, .null, .null, .null, .int 0, .int 0, .int 0, .null, .null, .int 0, .null, .null, .null, .null, .null, .null, .null, .null, .null, .null, .null, .int 0, .null, .null, .null, .null, .null, .null, .null, .null, .int 0, .int 0, .null, .null, .int 0, .int 0, .int 0, .int 0, .int 0, .int 0, .null, .null, .int 0, .null, .int 0, .null, .null, .int 0, .null, .null, .null, .null, .null, .int 0, .null, .int 0, .null, .null, .int 0, .null, .null, .int 0, .null, .null, .null, .null, .null, .int 0, .int 0, .null, .null, .null, .int 0, .int 0, .int 0, .int 0, .int 0, .null, .null, .null, .int 0, .null, .null, .int 0, .null, .null, .int 0])]) 0 0 = some (none, p2_D ++ p2_M, 58, 2514441) := rfl
theorem p2_law : mx_pg[230]? = some eL_law := rfl
set_option maxRecDepth 100000 in
theorem p2_pre {sL : Nat} {sx : Nat → Int32} {r : Option Value × List va_E × Nat × Nat} (h : mx_ends sL sx mx_pg 2048 230 18 [(3, .int 0), (2, .ref 66), (1, .ref 0), (0, .ref 1000000)] [] (p2_D ++ p2_M) 125 2538871 r) : mx_ends sL sx mx_pg 2048 230 0 [(0, .ref 1000000)] [] [] 0 0 r := by
  refine mx_ends_go p2_law 2 (0, [(0, .ref 1000000)], [], [], 0, 0) (4, [(0, .ref 1000000)], [.ref 0, .ref 0], [.inr (11, [.null, .int 0, .int 0, .int 0, .int 0, .int 0, .null, .null, .null, .null, .null])], 1, 11) rfl ?_
  refine mx_ends_I (r1 := (none, p2_D, 65, 24329)) (i := 0) (rest := [.ref 0]) p2_law rfl rfl rfl rfl rfl ⟨2000, p2_ctorD sL sx⟩ ?_
  refine mx_ends_go p2_law 3 (7, [(0, .ref 1000000)], [.ref 0], p2_D, 66, 24340) (12, [(1, .ref 0), (0, .ref 1000000)], [.ref 66, .ref 66], p2_D ++ [.inr (12, [.null, .int 0, .null, .int 0, .null, .null, .null, .int 0, .int 0, .int 0, .null, .null, .int 0, .null, .null, .null, .null, .null, .null, .null, .null, .null, .null, .null, .int 0, .null, .null, .null, .null, .null, .null, .null, .null, .int 0, .int 0, .null, .null, .int 0, .int 0, .int 0, .int 0, .int 0, .int 0, .null, .null, .int 0, .null, .int 0, .null, .null, .int 0, .null, .null, .null, .null, .null, .int 0, .null, .int 0, .null, .null, .int 0, .null, .null, .int 0, .null, .null, .null, .null, .null, .int 0, .int 0, .null, .null, .null, .int 0, .int 0, .int 0, .int 0, .int 0, .null, .null, .null, .int 0, .null, .null, .int 0, .null, .null, .int 0])], 67, 24430) rfl ?_
  refine mx_ends_I (r1 := (none, p2_D ++ p2_M, 58, 2514441)) (i := 66) (rest := [.ref 66]) p2_law rfl rfl rfl rfl rfl ⟨2000, p2_ctorM sL sx⟩ ?_
  exact mx_ends_go p2_law 3 (15, [(1, .ref 0), (0, .ref 1000000)], [.ref 66], p2_D ++ p2_M, 125, 2538871) (18, [(3, .int 0), (2, .ref 66), (1, .ref 0), (0, .ref 1000000)], [], p2_D ++ p2_M, 125, 2538871) rfl h
/-- the first state: all zero, but for seven fields -/
def p2_s0 : sx_S := (sx_uf (sx_uf (sx_uf (sx_uf (sx_uf (sx_uf (sx_uf (fun _ _ => 0) 0 3 (-1)) 0 4 (-1)) 0 5 (-1)) 8 2 2) 55 11 (-1)) 66 38 (-1)) 66 39 (-1), fun _ _ => 0, fun _ _ => 0, 0)
set_option maxRecDepth 100000 in
theorem p2_hp : p2_D ++ p2_M = sx_hp p2_s0 := rfl
theorem p2_uf {F : Nat → Nat → Int} {p k : Nat} {v : Int} (h : ∀ a j, -1 ≤ F a j ∧ F a j ≤ 2) (hv : -1 ≤ v ∧ v ≤ 2) : ∀ a j, -1 ≤ sx_uf F p k v a j ∧ sx_uf F p k v a j ≤ 2 := by
  intro a j
  rw [sx_uf_if]
  split
  · exact hv
  · exact h a j
theorem p2_s0_b : ∀ a j, -1 ≤ p2_s0.1 a j ∧ p2_s0.1 a j ≤ 2 := by
  refine p2_uf (p2_uf (p2_uf (p2_uf (p2_uf (p2_uf (p2_uf (fun _ _ => ⟨by decide, by decide⟩) ?_) ?_) ?_) ?_) ?_) ?_) ?_ <;> exact ⟨by decide, by decide⟩
theorem p2_lk1 {F : Nat → Nat → Int} {p k : Nat} (hF : -2147483648 ≤ F p k ∧ F p k ≤ 2147483647) : ∀ l : List (Nat × Nat × Int × Int), (∀ q ∈ l, q.2.2.1 ≤ F q.1 q.2.1 ∧ F q.1 q.2.1 ≤ q.2.2.2) → (cx_lk1 l p k).1 ≤ F p k ∧ F p k ≤ (cx_lk1 l p k).2
  | [], _ => hF
  | q :: l, h => by
    unfold cx_lk1
    cases hb : (Nat.beq q.1 p && Nat.beq q.2.1 k) with
    | true =>
      rw [Bool.and_eq_true] at hb
      have e1 : q.1 = p := Nat.eq_of_beq_eq_true hb.1
      have e2 : q.2.1 = k := Nat.eq_of_beq_eq_true hb.2
      have := h q List.mem_cons_self
      rw [e1, e2] at this
      exact this
    | false => exact p2_lk1 hF l (fun x hx => h x (List.mem_cons_of_mem _ hx))
theorem p2_lk2 {p : Nat} : ∀ l : List (Nat × Int × Int), (∀ q ∈ l, q.2.1 ≤ 0 ∧ 0 ≤ q.2.2) → (cx_lk2 l p).1 ≤ 0 ∧ 0 ≤ (cx_lk2 l p).2
  | [], _ => ⟨(by decide : (-2147483648 : Int) ≤ 0), (by decide : (0 : Int) ≤ 2147483647)⟩
  | q :: l, h => by
    unfold cx_lk2
    cases hb : Nat.beq q.1 p with
    | true => exact h q List.mem_cons_self
    | false => exact p2_lk2 l (fun x hx => h x (List.mem_cons_of_mem _ hx))
theorem p2_s0_I : cx_I p2_s0 := by
  intro b p j hp
  have hb := p2_s0_b p j
  match b with
  | 0 =>
    show (cx_rng p j).1 ≤ p2_s0.1 p j ∧ p2_s0.1 p j ≤ (cx_rng p j).2
    unfold cx_rng
    cases Nat.blt p 66 with
    | true => exact p2_lk1 ⟨by omega, by omega⟩ cx_tab (by decide)
    | false => exact p2_lk1 ⟨by omega, by omega⟩ cx_tabR (by decide)
  | 1 =>
    show (cx_arg p).1 ≤ 0 ∧ 0 ≤ (cx_arg p).2
    unfold cx_arg
    cases Nat.blt p 66 with
    | true => exact p2_lk2 cx_atab (by decide)
    | false => exact p2_lk2 cx_atabR (by decide)
  | _ + 2 =>
    intro _
    exact Int.le_refl 0
theorem p2_s0_BC : rf_BC p2_s0 := ⟨p2_s0_I, fun h => absurd rfl h, fun h => absurd rfl h⟩
/-- every script ends with 1, within the room -/
theorem p2_good {sL : Nat} {sx : Nat → Int32} (hsL : sL ≤ 3072) : ∃ (hp' : List va_E) (c' s' : Nat), mx_ends sL sx mx_pg 2048 230 0 [(0, .ref 1000000)] [] [] 0 0 (some (.int 1), hp', c', s') ∧ c' ≤ 600000 ∧ s' ≤ 7302250 := by
  have h := rf_law (sx := sx) hsL p2_s0 p2_s0_BC rfl rfl rfl ⟨fun _ => 0, 0, [], rfl, fun h => absurd rfl h, fun _ => rfl⟩
  have h' := sx_E.more (ls := [(3, .inl 0), (2, .inr (.inl 66)), (1, .inr (.inl 0)), (0, .inr (.inl 1000000))]) h (fun i v q => by
    match i with
    | 0 => exact q
    | 1 => exact q
    | 2 => exact q
    | 3 => exact q
    | _ + 4 => cases q)
  obtain ⟨z, t, h1, h2, h3, h4⟩ := h' (Nat.zero_le _) eL_law p2_law 125 2538871
  subst h4
  rw [← p2_hp] at h1
  have e0 : t.2.2.2 - p2_s0.2.2.2 ≤ 500000 := Nat.le_trans (Nat.sub_le _ _) h3
  exact ⟨_, _, _, p2_pre h1, by omega, by omega⟩
end
section
/-! THE CLAIM OUT OF ONE WALK OF THE LAW'S BODY. Your part is whole_start (and what it stands on); all else here is the same for every law, but numbers. -/
def R_law : String := "PatternDeskLaw"
def lw_P (b : Addr) (xs : List Int32) (args : Array Value) (s : State) : Prop := args = #[.ref b] ∧ s.IntsAt b xs ∧ xs.length ≤ 3072 ∧ (Jvm.Cond.and given_1 narrow_1).before args s = true
def lw_Q (_ : Array Value) (s : State) (o : Outcome) (t : State) : Prop := o = .returned (some (.int 1)) ∧ Framed s o t [] 600000 7302250
def lw_Z (below : List Frame) (a : Array Value) (s : State) : State → Prop := fun t => ∃ o, t.status = .running ∧ Ended t below o ∧ lw_Q a s o t
/-- what holds at the law's entry: the machine, the code, the tables' words (any of lw_tbl by 'hts w (by decide +kernel)'), the script of L ints xs at the cell b, what the Statement gives of the start (any of its parts by flat_of_before) -/
def lw_At (p : Program) (s : State) (m : MethodId) (meth : Method) (c : Code) (b L : Nat) (xs : Nat → Int32) : Prop :=
  p.tables.exec = Jvm.exec ∧ c.code = code ∧ meth.sig.returnType = ret ∧ c.maxLocals = 4 ∧ s.vm.findClass R_law = some m.cls ∧ (∀ w ∈ lw_tbl, w.before #[Value.ref b] s = true) ∧ va_X b L xs s s.heap ∧ b < s.heap.size ∧ meth.locks = false ∧ (Jvm.Cond.and given_1 narrow_1).before #[Value.ref b] s = true
/-! ===== THE LAW'S ENTRY: what lies below the first place; a run of the evaluator that answers 1 gives the walk ===== -/
theorem mx_c_eq {c : Nat} {q : vw_C} (h : vwCl[c]? = some q) : c < 13 ∧ q = mx_c c := by
  refine ⟨(List.getElem?_eq_some_iff.mp h).1, ?_⟩
  unfold mx_c
  rw [List.getD_eq_getElem?_getD, h]
  rfl
theorem mx_arr {s : State} {args : Array Value} {ty : FieldType} (h : (Cond.arrayClass ty).before args s = true) : ∃ cA : ClassId, ArrOfT s cA ty ∧ s.vm.findClass ("[" ++ ty.toString) = some cA := by
  obtain ⟨cA, kA, comp, h1, h2, h3⟩ := Cond.arrayClass_spec h
  exact ⟨cA, fun n z => ⟨fun k h => (by cases h), kA, h2, comp, h3⟩, h1⟩
def mx_ad (h b : Nat) (aK aV : Nat → Nat) (f g : Nat) : Nat → Nat := fun i => if i < 1000000 then h + i else if i = 1000000 then b else if i = 1000013 then f else if i = 1000014 then g else if i % 2 = 1 then aK ((i - 1000001) / 2) else aV ((i - 1000002) / 2)
theorem mx_ad_K {h b f g : Nat} {aK aV : Nat → Nat} {i : Nat} (hi : i < 6) : mx_ad h b aK aV f g (1000001 + 2 * i) = aK i := by
  unfold mx_ad
  rw [if_neg (by omega), if_neg (by omega), if_neg (by omega), if_neg (by omega), if_pos (by omega)]
  congr 1
  omega
theorem mx_ad_V {h b f g : Nat} {aK aV : Nat → Nat} {i : Nat} (hi : i < 6) : mx_ad h b aK aV f g (1000002 + 2 * i) = aV i := by
  unfold mx_ad
  rw [if_neg (by omega), if_neg (by omega), if_neg (by omega), if_neg (by omega), if_neg (by omega)]
  congr 1
  omega
theorem mx_S_to {N : Nat} {len : List Nat} {byt : List (List Int32)} {aK aV bK bV : Nat → Nat} {A : Nat → Prop} {U : State} {H : Heap} (h : vk_S N len byt aK aV A U H) (hk : ∀ i, i < N → bK i = aK i) (hv : ∀ i, i < N → bV i = aV i) : vk_S N len byt bK bV A U H :=
  ⟨fun i hi => by rw [hk i hi, hv i hi]; exact h.1 i hi, fun i j hi hj e => h.2 i j hi hj (by rw [← hk i hi, ← hk j hj]; exact e)⟩
def mx_tm (i : Nat) : Term := .string "PatternDesk$Tokens" (([66, 76, 82, 84, 86, 88] : List Nat).getD i 0)
theorem mx_X_of {s : State} {b L : Nat} {xs : Nat → Int32} (hts : ∀ w ∈ lw_tbl, w.before #[Value.ref b] s = true) (hX : va_X b L xs s s.heap) (hgv : (Jvm.Cond.and given_1 narrow_1).before #[Value.ref b] s = true) : ∃ (aK aV : Nat → Nat) (f g : Nat), ∀ (cA cC : Nat → ClassId) (iS : Nat → Nat → Nat), mx_X (mx_ad s.heap.size b aK aV f g, cA, cC, iS, s.heap.size, b, L, xs) s s.heap := by
  have hs := flat_of_before _ hgv
  have hA : ∀ a : Nat, a < s.heap.size → ¬ (fun q : Nat => s.heap.size ≤ q) a := fun a h q => absurd q (Nat.not_le.mpr h)
  have ht : ∀ c w, (mx_part (c / 1000))[c % 1000]? = some w → w.before #[Value.ref b] s = true := fun c w h => hts w (mx_part_in _ _ (List.mem_of_getElem? h))
  have g1 : ∀ i, i < 6 → (Cond.exactly (mx_tm i) "java/lang/String").before #[Value.ref b] s = true := fun i hi => hs _ (by revert i; decide +kernel)
  have g2 : ∀ i, i < 6 → (Cond.eq (.field (mx_tm i) "java/lang/String" "coder" "B") (.int 0)).before #[Value.ref b] s = true := fun i hi => hs _ (by revert i; decide +kernel)
  have g3 : ∀ i, i < 6 → (Cond.arrayOf (.field (mx_tm i) "java/lang/String" "value" "[B") .byte).before #[Value.ref b] s = true := fun i hi => hs _ (by revert i; decide +kernel)
  have g4 : ∀ i, i < 6 → (Cond.eq (.length (.field (mx_tm i) "java/lang/String" "value" "[B")) (.int (Int32.ofNat (mx_sln.getD i 0)))).before #[Value.ref b] s = true := fun i hi => hs _ (by revert i; decide +kernel)
  have g5 : ∀ i, i < 6 → ∀ j, j < mx_sln.getD i 0 → (Cond.eq (.elem (.field (mx_tm i) "java/lang/String" "value" "[B") (.int (Int32.ofNat j))) (.int ((mx_sby.getD i []).getD j 0))).before #[Value.ref b] s = true := fun i hi j hj => hs _ (by revert i j; decide +kernel)
  have g6 : ∀ i, i < 6 → ∀ j, j < 6 → i < j → (Cond.not (Cond.eq (mx_tm i) (mx_tm j))).before #[Value.ref b] s = true := fun i hi j hj c => hs _ (by revert i hi j hj c; decide +kernel)
  obtain ⟨aK, aV, hS, hev⟩ := vk_Sof (args := #[Value.ref b]) (s := s) (N := 6) (tm := mx_tm) (len := mx_sln) (byt := mx_sby) (A := fun q : Nat => s.heap.size ≤ q) (by decide) g1 g2 g3 g4 g5 (fun i j hi hj hij => by
    rcases Nat.lt_or_gt_of_ne hij with c | c
    · exact Or.inl (g6 i hi j hj c)
    · exact Or.inr (g6 j hj i hi c)) hA
  have hZ1 : va_Z "java/lang/String" "COMPACT_STRINGS" "Z" (.int 1) (fun q : Nat => s.heap.size ≤ q) s s.heap := va_Zof (ht 2203 _ rfl) (ht 1016 _ rfl) (va_eqi (hs _ (by decide +kernel))) hA
  have hZ2 : va_Zq "jdk/internal/util/Preconditions" "SIOOBE_FORMATTER" "Ljava/util/function/BiFunction;" (fun q : Nat => s.heap.size ≤ q) s s.heap := va_Zqof (ht 3002 _ rfl) (ht 1019 _ rfl) (hs _ (by decide +kernel)) hA
  have hq : ∃ f g : Nat, va_Z "jdk/internal/util/Preconditions" "SIOOBE_FORMATTER" "Ljava/util/function/BiFunction;" (if g = 0 then .null else .ref f) (fun q : Nat => s.heap.size ≤ q) s s.heap := by
    rcases hZ2 with h | ⟨t, h⟩
    · exact ⟨0, 0, h⟩
    · exact ⟨t, 1, h⟩
  obtain ⟨f, g, hfg⟩ := hq
  have hR : ∀ (i : Nat), i < 6 → ∀ (own : String) (k : Nat) (tx : String), (Cond.stringRef own k tx).before #[Value.ref b] s = true → (Term.string own k).eval #[Value.ref b] s none [] s = some (.ref (aK i)) → vk_R own k tx (mx_ad s.heap.size b aK aV f g (1000001 + 2 * i)) s := fun i hi own k tx h1 h2 => vk_R.of h1 (by rw [mx_ad_K hi]; exact h2)
  refine ⟨aK, aV, f, g, fun cA cC iS => ⟨hX, mx_S_to hS (fun i hi => mx_ad_K hi) (fun i hi => mx_ad_V hi), ?_, hZ1, hfg, ?_⟩⟩
  · refine List.forall_mem_cons.mpr ⟨hR 0 (by decide) _ _ _ (ht 2189 _ rfl) (hev 0 (by decide)), ?_⟩
    refine List.forall_mem_cons.mpr ⟨hR 1 (by decide) _ _ _ (ht 3046 _ rfl) (hev 1 (by decide)), ?_⟩
    refine List.forall_mem_cons.mpr ⟨hR 2 (by decide) _ _ _ (ht 3072 _ rfl) (hev 2 (by decide)), ?_⟩
    refine List.forall_mem_cons.mpr ⟨hR 3 (by decide) _ _ _ (ht 3073 _ rfl) (hev 3 (by decide)), ?_⟩
    refine List.forall_mem_cons.mpr ⟨hR 4 (by decide) _ _ _ (ht 3074 _ rfl) (hev 4 (by decide)), ?_⟩
    refine List.forall_mem_cons.mpr ⟨hR 5 (by decide) _ _ _ (ht 3075 _ rfl) (hev 5 (by decide)), ?_⟩
    refine List.forall_mem_cons.mpr ⟨hR 1 (by decide) _ _ _ (ht 6239 _ rfl) (va_eqR (hs (Cond.eq (.string "PatternDesk$Tokens" 76) (.string "PatternDeskModel" 221)) (by decide +kernel)) (hev 1 (by decide))), ?_⟩
    refine List.forall_mem_cons.mpr ⟨hR 2 (by decide) _ _ _ (ht 7006 _ rfl) (va_eqR (hs (Cond.eq (.string "PatternDesk$Tokens" 82) (.string "PatternDeskModel" 227)) (by decide +kernel)) (hev 2 (by decide))), ?_⟩
    refine List.forall_mem_cons.mpr ⟨hR 3 (by decide) _ _ _ (ht 7007 _ rfl) (va_eqR (hs (Cond.eq (.string "PatternDesk$Tokens" 84) (.string "PatternDeskModel" 229)) (by decide +kernel)) (hev 3 (by decide))), ?_⟩
    refine List.forall_mem_cons.mpr ⟨hR 4 (by decide) _ _ _ (ht 7008 _ rfl) (va_eqR (hs (Cond.eq (.string "PatternDesk$Tokens" 86) (.string "PatternDeskModel" 231)) (by decide +kernel)) (hev 4 (by decide))), ?_⟩
    refine List.forall_mem_cons.mpr ⟨hR 5 (by decide) _ _ _ (ht 7009 _ rfl) (va_eqR (hs (Cond.eq (.string "PatternDesk$Tokens" 88) (.string "PatternDeskModel" 233)) (by decide +kernel)) (hev 5 (by decide))), ?_⟩
    exact fun _ h => absurd h List.not_mem_nil
  · refine List.forall_mem_cons.mpr ⟨va_Nw.of rfl (ht 3233 _ rfl), ?_⟩
    refine List.forall_mem_cons.mpr ⟨va_Nw.of rfl (ht 4019 _ rfl), ?_⟩
    exact fun _ h => absurd h List.not_mem_nil
theorem mx_law {p : Program} {e : Env} {s : State} {m : MethodId} {below : List Frame} {meth : Method} {c : Code} (l : Launch) {b L : Nat} {xs : Nat → Int32} (hL : L ≤ 3072) (C0 : lw_At p s m meth c b L xs) {n : Nat} {hp' : List va_E} {c' s' : Nat} (h : mx_run L xs mx_pg n 2048 230 0 [(0, .ref 1000000)] [] [] 0 0 = some (some (.int 1), hp', c', s')) (hc : c' ≤ 600000) (hs : s' ≤ 7302250) :
    W p l e room_1 s m #[Value.ref b] below meth c s.heap [] 0 0 (lw_Z below #[Value.ref b] s) (entryFrame m ([Value.ref b] : List Value).toArray 4) := by
  obtain ⟨hx, hb, hr, hml, hown, hts, hX, hbl, hlocks, hgv⟩ := C0
  have ht : ∀ w ∈ mx_tb, w.before #[Value.ref b] s = true := fun w hw => hts w (List.mem_filter.mp hw).1
  obtain ⟨a0, h01, h02⟩ := mx_arr (ht (.arrayClass .int) (mx_mem (c := 1055) rfl (by decide +kernel)))
  obtain ⟨a1, h11, h12⟩ := mx_arr (ht (.arrayClass .boolean) (mx_mem (c := 6212) rfl (by decide +kernel)))
  obtain ⟨a2, h21, h22⟩ := mx_arr (ht (.arrayClass .byte) (mx_mem (c := 4058) rfl (by decide +kernel)))
  have hk0 : ∀ ci : Nat, ∃ q : ClassId × (Nat → Nat), ci < 13 → u_Kn s (mx_c ci).1 (mx_c ci).2.1 (mx_c ci).2.2 q.1 q.2 := by
    intro ci
    by_cases hci : ci < 13
    · obtain ⟨cC, iS, hkn⟩ := u_known ht (mx_in_tb ci hci) (ht _ (mx_inst ci hci).1)
      exact ⟨(cC, iS), fun _ => hkn⟩
    · exact ⟨(0, fun _ => 0), fun q => absurd q hci⟩
  obtain ⟨fk, hfk⟩ := Classical.axiomOfChoice hk0
  obtain ⟨aK, aV, f9, g9, hXX⟩ := mx_X_of hts hX hgv
  let E : mx_Ev := (mx_ad s.heap.size b aK aV f9 g9, fun t => if t = 0 then a0 else if t = 1 then a1 else a2, fun ci => (fk ci).1, fun ci => (fk ci).2, s.heap.size, b, L, xs)
  have hE : mx_ok E := ⟨fun i hi => if_pos hi, hbl, rfl, hL⟩
  have hK : mx_K E s := by
    refine ⟨fun ci q hq => ?_, fun k q hq => ?_⟩
    · obtain ⟨h1, rfl⟩ := mx_c_eq hq
      exact hfk ci h1
    · match k, hq with
      | 0, hq => cases hq; exact ⟨h01, h02⟩
      | 1, hq => cases hq; exact ⟨h11, h12⟩
      | 2, hq => cases hq; exact ⟨h21, h22⟩
      | k + 3, hq => simp [mx_T] at hq
  have hW := (mx_sound (l := l) (E := E) (sL := L) (sx := xs) rfl rfl hE mx_pg_ok n 2048 230 0 _ [] [] 0 0 _ hp' c' s' eL_law rfl h).2.2 room_1 600000 7302250 (fun v _ => v = some (.int 1)) hc hs (Nat.le_refl _) (Nat.le_refl _) (Nat.le_refl _) (Nat.le_of_ble_eq_true rfl) rfl
  have hl := lv_entry ([.ref b]) (n := 4) (Nat.le_of_ble_eq_true rfl)
  rw [lg_entry_eq]
  have hg := hW p e s m #[Value.ref b] below meth c s.heap [] _ ⟨hE, hx, hb, hml, hr, hlocks, fun q => absurd q (by decide), hown, ht, hK, Nat.le_refl _, hXX _ _ _⟩ ⟨fun k q hq => by simp [mx_w] at hq, rfl, Nat.zero_le _⟩ va_S.rf hl
  intro T hT X
  obtain ⟨t, a, o, b1, b2, ⟨⟨v, hp, ho, hv, -⟩, -⟩, Lc, hF, hLc⟩ := hg T hT X
  subst hv
  refine ⟨t, a, o, b1, b2, ho, ⟨_, ho⟩, hF.2.1, ?_⟩
  exact hF.2.2.weaken (fun y hy hlt => absurd hlt (Nat.not_lt.mpr (hLc y hy))) (Nat.le_refl _) (Nat.le_refl _)
end
