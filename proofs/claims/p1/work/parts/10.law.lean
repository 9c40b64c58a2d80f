/-! THE CLAIM OUT OF ONE WALK OF THE LAW'S BODY. Your part is whole_start (and what it stands on); all else here is the same for every law, but numbers. -/
def R_law : String := "PatternDeskLaw"
def lw_P (b : Addr) (xs : List Int32) (args : Array Value) (s : State) : Prop := args = #[.ref b] ∧ s.IntsAt b xs ∧ xs.length ≤ 6 ∧ (Jvm.Cond.and given_1 narrow_1).before args s = true
def lw_Q (_ : Array Value) (s : State) (o : Outcome) (t : State) : Prop := o = .returned (some (.int 1)) ∧ Framed s o t [] 600000 7302250
def lw_Z (below : List Frame) (a : Array Value) (s : State) : State → Prop := fun t => ∃ o, t.status = .running ∧ Ended t below o ∧ lw_Q a s o t
/-- the law's own end, with 1 on the stack, nothing written that was there before, its room as the claim has it -/
theorem lw_ret {p : Program} {l : Launch} {e : Env} {s : State} {m : MethodId} {below : List Frame} {meth : Method} {c : Code} {b : Nat} (hx : p.tables.exec = Jvm.exec) (hb : c.code = code) (hr : meth.sig.returnType = ret) (hlocks : meth.locks = false) {pc : Nat} {H : Heap} {ls : Array Slot} (hdg : decode code pc = .ok (.ireturn, 1)) : W p l e room_1 s m #[Value.ref b] below meth c H [] 600000 7302250 (lw_Z below #[Value.ref b] s) (F0 m pc ls [.int 1]) := by
  intro T hT X
  obtain ⟨fs, hret, hrun, hended, hW, hframe⟩ := X.leave (v := some (.int 1)) (hlocks := hlocks) (fun h => by rw [hr] at h; cases h)
  have hmeth' : T.vm.method? m = some meth := X.method'
  refine ⟨T.setFrames fs, ?_, .returned (some (.int 1)), hrun, hended, rfl, ⟨_, rfl⟩, hW, hframe⟩
  jvm_step X.here [X.here.top, hx, hb, hdg, hmeth', hr, ret, narrow_b1]
  (try refine ⟨rfl, ?_⟩); (try refine ⟨rfl, ?_⟩)
  first | (intro acts; rw [hret _ acts rfl rfl rfl]) | rw [hret _ _ rfl rfl rfl]
  exact Steps.refl _
/-- what holds at the law's entry: the machine, the code, the tables' words (any of lw_tbl by 'hts w (by decide +kernel)'), the script of L ints xs at the cell b, what the Statement gives of the start (any of its parts by flat_of_before) -/
def lw_At (p : Program) (s : State) (m : MethodId) (meth : Method) (c : Code) (b L : Nat) (xs : Nat → Int32) : Prop :=
  p.tables.exec = Jvm.exec ∧ c.code = code ∧ meth.sig.returnType = ret ∧ c.maxLocals = 4 ∧ s.vm.findClass R_law = some m.cls ∧ (∀ w ∈ lw_tbl, w.before #[Value.ref b] s = true) ∧ va_X b L xs s s.heap ∧ b < s.heap.size ∧ meth.locks = false ∧ (Jvm.Cond.and given_1 narrow_1).before #[Value.ref b] s = true
/-! ===== THE LAW'S ENTRY: a run of the evaluator that answers 1 gives the walk ===== -/
theorem mx_c_eq {c : Nat} {q : vw_C} (h : vwCl[c]? = some q) : c < 13 ∧ q = mx_c c := by
  refine ⟨(List.getElem?_eq_some_iff.mp h).1, ?_⟩
  unfold mx_c
  rw [List.getD_eq_getElem?_getD, h]
  rfl
theorem mx_arr {s : State} {args : Array Value} {ty : FieldType} (h : (Cond.arrayClass ty).before args s = true) : ∃ cA : ClassId, ArrOfT s cA ty ∧ s.vm.findClass ("[" ++ ty.toString) = some cA := by
  obtain ⟨cA, kA, comp, h1, h2, h3⟩ := Cond.arrayClass_spec h
  exact ⟨cA, fun n z => ⟨fun k h => (by cases h), kA, h2, comp, h3⟩, h1⟩
theorem mx_law {p : Program} {e : Env} {s : State} {m : MethodId} {below : List Frame} {meth : Method} {c : Code} (l : Launch) {b L : Nat} {xs : Nat → Int32} (hL : L ≤ 6) (C0 : lw_At p s m meth c b L xs) {n : Nat} {hp' : List va_E} {c' s' : Nat} (h : mx_run L xs mx_pg n 2048 48 0 [(0, .ref 1000000)] [] [] 0 0 = some (some (.int 1), hp', c', s')) (hc : c' ≤ 600000) (hs : s' ≤ 7302250) :
    W p l e room_1 s m #[Value.ref b] below meth c s.heap [] 0 0 (lw_Z below #[Value.ref b] s) (entryFrame m ([Value.ref b] : List Value).toArray 4) := by
  obtain ⟨hx, hb, hr, hml, hown, hts, hX, hbl, hlocks, hgv⟩ := C0
  have ht : ∀ w ∈ mx_tb, w.before #[Value.ref b] s = true := fun w hw => hts w (List.mem_filter.mp hw).1
  obtain ⟨a0, h01, h02⟩ := mx_arr (ht (.arrayClass .int) (mx_mem (c := 1055) rfl (by decide +kernel)))
  obtain ⟨a1, h11, h12⟩ := mx_arr (ht (.arrayClass .boolean) (mx_mem (c := 6212) rfl (by decide +kernel)))
  obtain ⟨a2, h21, h22⟩ := mx_arr (ht (.arrayClass .byte) (mx_mem (c := 4058) rfl (by decide +kernel)))
  have hk0 : ∀ ci : Nat, ∃ q : ClassId × (Nat → Nat), ci < 13 → u_Kn s (mx_c ci).1 (mx_c ci).2.1 (mx_c ci).2.2 q.1 q.2 := by
    intro ci
    by_cases hci : ci < 13
    · obtain ⟨cC, iS, hkn⟩ := u_known ht (mx_in_tb ci hci) (ht _ (mx_inst ci hci).1)
      exact ⟨(cC, iS), fun _ => hkn⟩
    · exact ⟨(0, fun _ => 0), fun q => absurd q hci⟩
  obtain ⟨fk, hfk⟩ := Classical.axiomOfChoice hk0
  let E : mx_Ev := (fun i => if i < 1000000 then s.heap.size + i else b, fun t => if t = 0 then a0 else if t = 1 then a1 else a2, fun ci => (fk ci).1, fun ci => (fk ci).2, s.heap.size, b, L, xs)
  have hE : mx_ok E := ⟨fun i hi => if_pos hi, hbl, rfl, Nat.le_trans hL (by decide)⟩
  have hK : mx_K E s := by
    refine ⟨fun ci q hq => ?_, fun k q hq => ?_⟩
    · obtain ⟨h1, rfl⟩ := mx_c_eq hq
      exact hfk ci h1
    · match k, hq with
      | 0, hq => cases hq; exact ⟨h01, h02⟩
      | 1, hq => cases hq; exact ⟨h11, h12⟩
      | 2, hq => cases hq; exact ⟨h21, h22⟩
      | k + 3, hq => simp [mx_T] at hq
  have hW := (mx_sound (l := l) (E := E) (sL := L) (sx := xs) rfl rfl hE mx_pg_ok n 2048 48 0 _ [] [] 0 0 _ hp' c' s' eL_law rfl h).2.2 room_1 600000 7302250 (fun v _ => v = some (.int 1)) hc hs (Nat.le_refl _) (Nat.le_refl _) (Nat.le_refl _) (Nat.le_of_ble_eq_true rfl) rfl
  have hl := lv_entry ([.ref b]) (n := 4) (Nat.le_of_ble_eq_true rfl)
  rw [lg_entry_eq]
  have hg := hW p e s m #[Value.ref b] below meth c s.heap [] _ ⟨hE, hx, hb, hml, hr, hlocks, fun q => absurd q (by decide), hown, ht, hK, Nat.le_refl _, hX⟩ ⟨fun k q hq => by simp [mx_w] at hq, rfl, Nat.zero_le _⟩ va_S.rf hl
  intro T hT X
  obtain ⟨t, a, o, b1, b2, ⟨⟨v, hp, ho, hv, -⟩, -⟩, Lc, hF, hLc⟩ := hg T hT X
  subst hv
  refine ⟨t, a, o, b1, b2, ho, ⟨_, ho⟩, hF.2.1, ?_⟩
  exact hF.2.2.weaken (fun y hy hlt => absurd hlt (Nat.not_lt.mpr (hLc y hy))) (Nat.le_refl _) (Nat.le_refl _)
