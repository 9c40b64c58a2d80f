/-! ===== THE PURE MACHINE: worlds whose cells are named by their places; a judgement mx_W over them; a rule an instruction ===== -/
/-- the tables' words that stay over a call; pure values name cells by their places: here they get addresses -/
def mx_tb : List Cond := lw_tbl.filter goodWord
def mx_v (r : Nat → Nat) (v : Value) : Value := match v with
  | .ref i => .ref (r i)
  | v => v
theorem mx_v_cat (r : Nat → Nat) (v : Value) : (mx_v r v).category = v.category := by cases v <;> rfl
def mx_e (r : Nat → Nat) (cA : Nat → ClassId) (e : va_E) : va_E := match e with
  | .inl a => .inl (cA a.1, a.2)
  | .inr o => .inr (o.1, o.2.map (mx_v r))
def mx_w (r : Nat → Nat) (cA : Nat → ClassId) (hp : List va_E) : va_W := hp.mapIdx (fun i e => (r i, mx_e r cA e))
theorem mx_w_at {r : Nat → Nat} {cA : Nat → ClassId} {hp : List va_E} {i : Nat} {e : va_E} (h : hp[i]? = some e) : (mx_w r cA hp)[i]? = some (r i, mx_e r cA e) := by
  simp [mx_w, h]
theorem mx_w_of {r : Nat → Nat} {cA : Nat → ClassId} {hp : List va_E} {i : Nat} {q : Nat × va_E} (h : (mx_w r cA hp)[i]? = some q) : i < hp.length ∧ q.1 = r i := by
  simp [mx_w] at h
  obtain ⟨e, he, hq⟩ := h
  exact ⟨(List.getElem?_eq_some_iff.mp he).1, by rw [← hq]⟩
theorem mx_w_set {r : Nat → Nat} {cA : Nat → ClassId} {hp : List va_E} {i : Nat} {e : va_E} : (mx_w r cA hp).set i (r i, mx_e r cA e) = mx_w r cA (hp.set i e) := by
  apply List.ext_getElem?
  intro j
  by_cases hj : i = j
  · subst hj
    by_cases hl : i < hp.length
    · simp [mx_w, hl]
    · have h1 : ¬ i < (mx_w r cA hp).length := by simp [mx_w]; omega
      rw [List.getElem?_eq_none (by simp [mx_w]; omega), List.getElem?_eq_none (by simp [mx_w]; omega)]
  · simp [mx_w, List.getElem?_set_ne hj]
theorem mx_w_push {r : Nat → Nat} {cA : Nat → ClassId} {hp : List va_E} {e : va_E} : mx_w r cA hp ++ [(r hp.length, mx_e r cA e)] = mx_w r cA (hp ++ [e]) := by
  simp [mx_w, List.mapIdx_append]
/-- the surroundings: addresses by place, array classes by tag (0 int, 1 boolean, 2 byte), classes, slots, the first address; the script: its address, length, ints (its place is 1000000) -/
abbrev mx_Ev : Type := (Nat → Nat) × (Nat → ClassId) × (Nat → ClassId) × (Nat → Nat → Nat) × Nat × Nat × Nat × (Nat → Int32)
/-- a method: name, bytes, locals, what it returns -/
abbrev mx_Me : Type := MethodName × ByteArray × Nat × Option FieldType
def mx_T (cA : Nat → ClassId) : List (ClassId × FieldType) := [(cA 0, .int), (cA 1, .boolean), (cA 2, .byte)]
def mx_ok (E : mx_Ev) : Prop := (∀ i, i < 1000000 → E.1 i = E.2.2.2.2.1 + i) ∧ E.2.2.2.2.2.1 < E.2.2.2.2.1 ∧ E.1 1000000 = E.2.2.2.2.2.1 ∧ E.2.2.2.2.2.2.1 ≤ 3072
def mx_A (E : mx_Ev) : Nat → Prop := fun q => E.2.2.2.2.1 ≤ q
def mx_K (E : mx_Ev) (s : State) : Prop := va_K (E.2.2.1, E.2.2.2.1) vwCl (mx_T E.2.1) s
def mx_P (E : mx_Ev) (hp : List va_E) (H : Heap) : Prop := va_P (E.2.2.1, E.2.2.2.1) vwCl (mx_w E.1 E.2.1 hp) H ∧ H.size = E.2.2.2.2.1 + hp.length ∧ hp.length ≤ 600000
def mx_Q (E : mx_Ev) (K : Option Value → List va_E → Prop) : Array Value → State → Outcome → State → Prop := fun _ st o t =>
  (∃ (v : Option Value) (hp : List va_E), o = .returned (v.map (mx_v E.1)) ∧ K v hp ∧ mx_P E hp t.heap) ∧ va_F (mx_A E) st t
/-- what lies below the first place and stays: String constants (six texts, eleven entries), a static, the links between nest mates -/
def mx_lits : List (String × Nat × String × Nat) := [("PatternDesk$Tokens", 66, "()\\:.;=", 0), ("PatternDesk$Tokens", 76, "con", 1), ("PatternDesk$Tokens", 82, "met", 2), ("PatternDesk$Tokens", 84, "eq", 3), ("PatternDesk$Tokens", 86, "o", 4), ("PatternDesk$Tokens", 88, "i", 5), ("PatternDeskModel", 221, "con", 1), ("PatternDeskModel", 227, "met", 2), ("PatternDeskModel", 229, "eq", 3), ("PatternDeskModel", 231, "o", 4), ("PatternDeskModel", 233, "i", 5)]
def mx_nest : List (String × Nat × MethodName × String) := [("PatternDesk$Checker", 191, yX7_asVariable, "PatternDesk"), ("PatternDesk$Checker", 92, yX7_complete, "PatternDesk")]
def mx_sln : List Nat := [7, 3, 3, 2, 1, 1]
def mx_sby : List (List Int32) := [[40, 41, 92, 58, 46, 59, 61], [99, 111, 110], [109, 101, 116], [101, 113], [111], [105]]
/-- the value of a static of which only 'a reference or null' is known: null, or the cell of place 1000013 -/
def mx_fm (E : mx_Ev) : Value := if E.1 1000014 = 0 then .null else .ref (E.1 1000013)
def mx_X (E : mx_Ev) (U : State) (H : Heap) : Prop := va_X E.2.2.2.2.2.1 E.2.2.2.2.2.2.1 E.2.2.2.2.2.2.2 U H ∧ vk_S 6 mx_sln mx_sby (fun i => E.1 (1000001 + 2 * i)) (fun i => E.1 (1000002 + 2 * i)) (mx_A E) U H ∧ (∀ q ∈ mx_lits, vk_R q.1 q.2.1 q.2.2.1 (E.1 (1000001 + 2 * q.2.2.2)) U) ∧ va_Z "java/lang/String" "COMPACT_STRINGS" "Z" (.int 1) (mx_A E) U H ∧ va_Z "jdk/internal/util/Preconditions" "SIOOBE_FORMATTER" "Ljava/util/function/BiFunction;" (mx_fm E) (mx_A E) U H ∧ (∀ q ∈ mx_nest, va_Nw (.methodLinkNest q.1 q.2.1 q.2.2.1 q.2.2.2) U)
theorem mx_X.same {E : mx_Ev} {U V : State} {H : Heap} (hv : V.vm = U.vm) (h : mx_X E U H) : mx_X E V H := by
  have ha : U.vm.Alike V.vm := by rw [hv]; exact Vm.Alike.refl _
  exact ⟨va_X.moved ha h.1, vk_S.moved ha h.2.1, fun q hq => vk_R.same hv (h.2.2.1 q hq), va_Z.moved ha h.2.2.2.1, va_Z.moved ha h.2.2.2.2.1, fun q hq => va_Nw.same rfl hv.symm (h.2.2.2.2.2 q hq)⟩
theorem mx_X.warm {E : mx_Ev} {s U : State} {H H1 : Heap} (hW : s.WarmedH U.vm) (hb : H1[E.2.2.2.2.2.1]? = H[E.2.2.2.2.2.1]?) (hq : ∀ a : Nat, a < H.size → ¬ mx_A E a → H1[a]? = H[a]?) (h : mx_X E s H) : mx_X E U H1 :=
  ⟨va_X.moved hW.alike (h.1.kept hb), vk_S.moved hW.alike (h.2.1.kept hq), fun q hm => vk_R.warm hW (h.2.2.1 q hm), va_Z.moved hW.alike (h.2.2.2.1.kept hq), va_Z.moved hW.alike (h.2.2.2.2.1.kept hq), fun q hm => va_Nw.warmM hW (h.2.2.2.2.2 q hm)⟩
def mx_C (E : mx_Ev) (M : mx_Me) (p : Program) (s : State) (m : MethodId) (args : Array Value) (meth : Method) (c : Code) : Prop :=
  mx_ok E ∧ p.tables.exec = Jvm.exec ∧ c.code = M.2.1 ∧ c.maxLocals = M.2.2.1 ∧ meth.sig.returnType = M.2.2.2 ∧ meth.locks = false ∧ (M.1.name = "<init>" → meth.name = "<init>") ∧ s.vm.findClass M.1.cls = some m.cls ∧ (∀ w ∈ mx_tb, w.before args s = true) ∧ mx_K E s ∧ E.2.2.2.2.1 ≤ s.heap.size ∧ mx_X E s s.heap
def mx_W (l : Launch) (E : mx_Ev) (M : mx_Me) (R : Room) (mc ms : Nat) (K : Option Value → List va_E → Prop) (cells slots pc : Nat) (ls : List (Nat × Value)) (st : List Value) (hp : List va_E) : Prop :=
  ∀ (p : Program) (e : Env) (s : State) (m : MethodId) (args : Array Value) (below : List Frame) (meth : Method) (c : Code) (H : Heap) (locs : List Loc) (lv : Array Slot),
    mx_C E M p s m args meth c → mx_P E hp H → va_S (mx_A E) s.heap H locs → lv_has lv M.2.2.1 (ls.map (fun q => (q.1, mx_v E.1 q.2))) →
    W p l e R s m args below meth c H locs cells slots (MQ below (mx_Q E K) args s mc ms (mx_A E)) (F0 m pc lv (st.map (mx_v E.1)))
theorem mx_P.D {E : mx_Ev} {hp : List va_E} {H : Heap} (hE : mx_ok E) (h : mx_P E hp H) : va_D (mx_A E) (mx_w E.1 E.2.1 hp) := by
  refine ⟨fun i j p q h1 h2 e => ?_, fun k q hk => ?_⟩
  · obtain ⟨a1, a2⟩ := mx_w_of h1
    obtain ⟨b1, b2⟩ := mx_w_of h2
    rw [a2, b2, hE.1 i (by have := h.2.2; omega), hE.1 j (by have := h.2.2; omega)] at e
    omega
  · obtain ⟨a1, a2⟩ := mx_w_of hk
    rw [a2, hE.1 k (by have := h.2.2; omega)]
    exact Nat.le_add_right _ _
/-- what stands at a place -/
def mx_at : List (Nat × Value) → Nat → Option Value
  | [], _ => none
  | q :: l, i => cond (Nat.beq q.1 i) (some q.2) (mx_at l i)
theorem mx_at_mem : ∀ {l : List (Nat × Value)} {i : Nat} {v : Value}, mx_at l i = some v → (i, v) ∈ l
  | [], _, _, h => by cases h
  | q :: l, i, v, h => by
    unfold mx_at at h
    by_cases hq : Nat.beq q.1 i = true
    · rw [hq] at h
      have e1 : q.1 = i := Nat.eq_of_beq_eq_true hq
      have e2 : q.2 = v := Option.some.inj h
      rw [← e1, ← e2]
      exact List.mem_cons_self
    · rw [Bool.not_eq_true] at hq
      rw [hq] at h
      exact List.mem_cons_of_mem _ (mx_at_mem h)
def mx_keep (i : Nat) (q : Nat × Value) : Bool := !(q.1 == i) && !(q.1 + 1 == i && q.2.category == 2)
def mx_put (ls : List (Nat × Value)) (i : Nat) (v : Value) : List (Nat × Value) := (i, v) :: ls.filter (mx_keep i)
theorem mx_get {E : mx_Ev} {lv : Array Slot} {n i : Nat} {ls : List (Nat × Value)} {v : Value} (L : lv_has lv n (ls.map (fun q => (q.1, mx_v E.1 q.2)))) (h : mx_at ls i = some v) : lv[i]? = some (.val (mx_v E.1 v)) :=
  L.2.2 (i, mx_v E.1 v) (List.mem_map.mpr ⟨(i, v), mx_at_mem h, rfl⟩)
theorem mx_put_eq (r : Nat → Nat) (ls : List (Nat × Value)) (i : Nat) (v : Value) : (i, mx_v r v) :: (ls.map (fun q => (q.1, mx_v r q.2))).filter (fun q => !(q.1 == i) && !(q.1 + 1 == i && q.2.category == 2)) = (mx_put ls i v).map (fun q => (q.1, mx_v r q.2)) := by
  unfold mx_put
  rw [List.map_cons, List.filter_map]
  congr 2
  apply List.filter_congr
  intro q _
  simp [mx_keep, mx_v_cat]
section MX
variable {l : Launch} {E : mx_Ev} {M : mx_Me} {R : Room} {mc ms : Nat} {K : Option Value → List va_E → Prop} {cells slots pc : Nat} {ls : List (Nat × Value)} {st : List Value} {hp : List va_E}
theorem mx_iconst {n : Int} {v : Int32} (hd : decode M.2.1 pc = .ok (.iconst n, 1)) (hv : Int32.ofInt n = v) (k : mx_W l E M R mc ms K cells slots (pc + 1) ls (.int v :: st) hp) : mx_W l E M R mc ms K cells slots pc ls st hp :=
  fun p e s m args below meth c H locs lv C P S L => lv_iconst C.2.1 C.2.2.1 hd hv (k p e s m args below meth c H locs lv C P S L)
theorem mx_bipush {n : Int} {v : Int32} (hd : decode M.2.1 pc = .ok (.bipush n, 2)) (hv : (Int8.ofInt n).toInt32 = v) (k : mx_W l E M R mc ms K cells slots (pc + 2) ls (.int v :: st) hp) : mx_W l E M R mc ms K cells slots pc ls st hp :=
  fun p e s m args below meth c H locs lv C P S L => lv_bipush C.2.1 C.2.2.1 hd hv (k p e s m args below meth c H locs lv C P S L)
theorem mx_sipush {n : Int} {v : Int32} (hd : decode M.2.1 pc = .ok (.sipush n, 3)) (hv : (Int16.ofInt n).toInt32 = v) (k : mx_W l E M R mc ms K cells slots (pc + 3) ls (.int v :: st) hp) : mx_W l E M R mc ms K cells slots pc ls st hp :=
  fun p e s m args below meth c H locs lv C P S L => lv_sipush C.2.1 C.2.2.1 hd hv (k p e s m args below meth c H locs lv C P S L)
theorem mx_null (hd : decode M.2.1 pc = .ok (.aconst_null, 1)) (k : mx_W l E M R mc ms K cells slots (pc + 1) ls (.null :: st) hp) : mx_W l E M R mc ms K cells slots pc ls st hp :=
  fun p e s m args below meth c H locs lv C P S L => lv_null C.2.1 C.2.2.1 hd (k p e s m args below meth c H locs lv C P S L)
theorem mx_ldc {i : Nat} {v : Int32} (hd : decode M.2.1 pc = .ok (.ldc i, 2)) (hw : Cond.constant M.1.cls i v ∈ mx_tb) (k : mx_W l E M R mc ms K cells slots (pc + 2) ls (.int v :: st) hp) : mx_W l E M R mc ms K cells slots pc ls st hp :=
  fun p e s m args below meth c H locs lv C P S L => lv_ldc C.2.1 C.2.2.1 C.2.2.2.2.2.2.2.1 (C.2.2.2.2.2.2.2.2.1 _ hw) hd (k p e s m args below meth c H locs lv C P S L)
theorem mx_iload_n {k : Fin 4} {x : Int32} (hd : decode M.2.1 pc = .ok (.iload_n k, 1)) (hv : mx_at ls k.val = some (.int x)) (k : mx_W l E M R mc ms K cells slots (pc + 1) ls (.int x :: st) hp) : mx_W l E M R mc ms K cells slots pc ls st hp :=
  fun p e s m args below meth c H locs lv C P S L => lv_iload_n C.2.1 C.2.2.1 hd rfl (mx_get L hv) (k p e s m args below meth c H locs lv C P S L)
theorem mx_iload {i : Nat} {x : Int32} (hd : decode M.2.1 pc = .ok (.iload i, 2)) (hv : mx_at ls i = some (.int x)) (k : mx_W l E M R mc ms K cells slots (pc + 2) ls (.int x :: st) hp) : mx_W l E M R mc ms K cells slots pc ls st hp :=
  fun p e s m args below meth c H locs lv C P S L => lv_iload C.2.1 C.2.2.1 hd (mx_get L hv) (k p e s m args below meth c H locs lv C P S L)
theorem mx_aload_n {k : Fin 4} {x : Nat} (hd : decode M.2.1 pc = .ok (.aload_n k, 1)) (hv : mx_at ls k.val = some (.ref x)) (k : mx_W l E M R mc ms K cells slots (pc + 1) ls (.ref x :: st) hp) : mx_W l E M R mc ms K cells slots pc ls st hp :=
  fun p e s m args below meth c H locs lv C P S L => lv_aload_n C.2.1 C.2.2.1 hd rfl (mx_get L hv) (k p e s m args below meth c H locs lv C P S L)
theorem mx_aload {i : Nat} {x : Nat} (hd : decode M.2.1 pc = .ok (.aload i, 2)) (hv : mx_at ls i = some (.ref x)) (k : mx_W l E M R mc ms K cells slots (pc + 2) ls (.ref x :: st) hp) : mx_W l E M R mc ms K cells slots pc ls st hp :=
  fun p e s m args below meth c H locs lv C P S L => lv_aload C.2.1 C.2.2.1 hd (mx_get L hv) (k p e s m args below meth c H locs lv C P S L)
theorem mx_istore_n {k : Fin 4} {x : Int32} (hd : decode M.2.1 pc = .ok (.istore_n k, 1)) (hn : k.val < M.2.2.1) (kk : mx_W l E M R mc ms K cells slots (pc + 1) (mx_put ls k.val (.int x)) st hp) : mx_W l E M R mc ms K cells slots pc ls (.int x :: st) hp :=
  fun p e s m args below meth c H locs lv C P S L => lv_istore_n C.2.1 C.2.2.1 hd rfl L hn (mx_put_eq E.1 ls k.val (.int x)) (fun lv2 L2 => kk p e s m args below meth c H locs lv2 C P S L2)
theorem mx_istore {i : Nat} {x : Int32} (hd : decode M.2.1 pc = .ok (.istore i, 2)) (hn : i < M.2.2.1) (kk : mx_W l E M R mc ms K cells slots (pc + 2) (mx_put ls i (.int x)) st hp) : mx_W l E M R mc ms K cells slots pc ls (.int x :: st) hp :=
  fun p e s m args below meth c H locs lv C P S L => lv_istore C.2.1 C.2.2.1 hd L hn (mx_put_eq E.1 ls i (.int x)) (fun lv2 L2 => kk p e s m args below meth c H locs lv2 C P S L2)
theorem mx_astore_n {k : Fin 4} {x : Nat} (hd : decode M.2.1 pc = .ok (.astore_n k, 1)) (hn : k.val < M.2.2.1) (kk : mx_W l E M R mc ms K cells slots (pc + 1) (mx_put ls k.val (.ref x)) st hp) : mx_W l E M R mc ms K cells slots pc ls (.ref x :: st) hp :=
  fun p e s m args below meth c H locs lv C P S L => lv_astore_n C.2.1 C.2.2.1 hd rfl L hn (mx_put_eq E.1 ls k.val (.ref x)) (fun lv2 L2 => kk p e s m args below meth c H locs lv2 C P S L2)
theorem mx_astore {i : Nat} {x : Nat} (hd : decode M.2.1 pc = .ok (.astore i, 2)) (hn : i < M.2.2.1) (kk : mx_W l E M R mc ms K cells slots (pc + 2) (mx_put ls i (.ref x)) st hp) : mx_W l E M R mc ms K cells slots pc ls (.ref x :: st) hp :=
  fun p e s m args below meth c H locs lv C P S L => lv_astore C.2.1 C.2.2.1 hd L hn (mx_put_eq E.1 ls i (.ref x)) (fun lv2 L2 => kk p e s m args below meth c H locs lv2 C P S L2)
theorem mx_iinc {i : Nat} {n : Int} {x v : Int32} (hd : decode M.2.1 pc = .ok (.iinc i n, 3)) (hx : mx_at ls i = some (.int x)) (hv : x + Int32.ofInt n = v) (hn : i < M.2.2.1) (kk : mx_W l E M R mc ms K cells slots (pc + 3) (mx_put ls i (.int v)) st hp) : mx_W l E M R mc ms K cells slots pc ls st hp :=
  fun p e s m args below meth c H locs lv C P S L => by
    obtain ⟨k, hk⟩ := List.mem_iff_getElem?.mp (List.mem_map.mpr ⟨(i, Value.int x), mx_at_mem hx, rfl⟩ : (i, mx_v E.1 (.int x)) ∈ ls.map (fun q => (q.1, mx_v E.1 q.2)))
    exact lv_iinc C.2.1 C.2.2.1 hd L hk hv hn (mx_put_eq E.1 ls i (.int v)) (fun lv2 L2 => kk p e s m args below meth c H locs lv2 C P S L2)
theorem mx_iadd {x y : Int32} (hd : decode M.2.1 pc = .ok (.iadd, 1)) (k : mx_W l E M R mc ms K cells slots (pc + 1) ls (.int (x + y) :: st) hp) : mx_W l E M R mc ms K cells slots pc ls (.int y :: .int x :: st) hp :=
  fun p e s m args below meth c H locs lv C P S L => lv_iadd C.2.1 C.2.2.1 hd (k p e s m args below meth c H locs lv C P S L)
theorem mx_isub {x y : Int32} (hd : decode M.2.1 pc = .ok (.isub, 1)) (k : mx_W l E M R mc ms K cells slots (pc + 1) ls (.int (x - y) :: st) hp) : mx_W l E M R mc ms K cells slots pc ls (.int y :: .int x :: st) hp :=
  fun p e s m args below meth c H locs lv C P S L => lv_isub C.2.1 C.2.2.1 hd (k p e s m args below meth c H locs lv C P S L)
theorem mx_imul {x y : Int32} (hd : decode M.2.1 pc = .ok (.imul, 1)) (k : mx_W l E M R mc ms K cells slots (pc + 1) ls (.int (x * y) :: st) hp) : mx_W l E M R mc ms K cells slots pc ls (.int y :: .int x :: st) hp :=
  fun p e s m args below meth c H locs lv C P S L => lv_imul C.2.1 C.2.2.1 hd (k p e s m args below meth c H locs lv C P S L)
theorem mx_iand {x y : Int32} (hd : decode M.2.1 pc = .ok (.iand, 1)) (k : mx_W l E M R mc ms K cells slots (pc + 1) ls (.int (x &&& y) :: st) hp) : mx_W l E M R mc ms K cells slots pc ls (.int y :: .int x :: st) hp :=
  fun p e s m args below meth c H locs lv C P S L => lv_iand C.2.1 C.2.2.1 hd (k p e s m args below meth c H locs lv C P S L)
theorem mx_ior {x y : Int32} (hd : decode M.2.1 pc = .ok (.ior, 1)) (k : mx_W l E M R mc ms K cells slots (pc + 1) ls (.int (x ||| y) :: st) hp) : mx_W l E M R mc ms K cells slots pc ls (.int y :: .int x :: st) hp :=
  fun p e s m args below meth c H locs lv C P S L => lv_ior C.2.1 C.2.2.1 hd (k p e s m args below meth c H locs lv C P S L)
theorem mx_ixor {x y : Int32} (hd : decode M.2.1 pc = .ok (.ixor, 1)) (k : mx_W l E M R mc ms K cells slots (pc + 1) ls (.int (x ^^^ y) :: st) hp) : mx_W l E M R mc ms K cells slots pc ls (.int y :: .int x :: st) hp :=
  fun p e s m args below meth c H locs lv C P S L => lv_ixor C.2.1 C.2.2.1 hd (k p e s m args below meth c H locs lv C P S L)
theorem mx_ishl {x y : Int32} (hd : decode M.2.1 pc = .ok (.ishl, 1)) (k : mx_W l E M R mc ms K cells slots (pc + 1) ls (.int (x <<< (y &&& 31)) :: st) hp) : mx_W l E M R mc ms K cells slots pc ls (.int y :: .int x :: st) hp :=
  fun p e s m args below meth c H locs lv C P S L => lv_ishl C.2.1 C.2.2.1 hd (k p e s m args below meth c H locs lv C P S L)
theorem mx_ishr {x y : Int32} (hd : decode M.2.1 pc = .ok (.ishr, 1)) (k : mx_W l E M R mc ms K cells slots (pc + 1) ls (.int (x >>> (y &&& 31)) :: st) hp) : mx_W l E M R mc ms K cells slots pc ls (.int y :: .int x :: st) hp :=
  fun p e s m args below meth c H locs lv C P S L => lv_ishr C.2.1 C.2.2.1 hd (k p e s m args below meth c H locs lv C P S L)
theorem mx_idiv {x y : Int32} (hd : decode M.2.1 pc = .ok (.idiv, 1)) (hy : ¬ y = 0) (k : mx_W l E M R mc ms K cells slots (pc + 1) ls (.int (x / y) :: st) hp) : mx_W l E M R mc ms K cells slots pc ls (.int y :: .int x :: st) hp :=
  fun p e s m args below meth c H locs lv C P S L => lv_idiv C.2.1 C.2.2.1 hd hy (k p e s m args below meth c H locs lv C P S L)
theorem mx_irem {x y : Int32} (hd : decode M.2.1 pc = .ok (.irem, 1)) (hy : ¬ y = 0) (k : mx_W l E M R mc ms K cells slots (pc + 1) ls (.int (x - x / y * y) :: st) hp) : mx_W l E M R mc ms K cells slots pc ls (.int y :: .int x :: st) hp :=
  fun p e s m args below meth c H locs lv C P S L => lv_irem C.2.1 C.2.2.1 hd hy (k p e s m args below meth c H locs lv C P S L)
theorem mx_ineg {x : Int32} (hd : decode M.2.1 pc = .ok (.ineg, 1)) (k : mx_W l E M R mc ms K cells slots (pc + 1) ls (.int (-x) :: st) hp) : mx_W l E M R mc ms K cells slots pc ls (.int x :: st) hp :=
  fun p e s m args below meth c H locs lv C P S L => lv_ineg C.2.1 C.2.2.1 hd (k p e s m args below meth c H locs lv C P S L)
theorem mx_iushr {x y : Int32} (hd : decode M.2.1 pc = .ok (.iushr, 1)) (k : mx_W l E M R mc ms K cells slots (pc + 1) ls (.int (x.toUInt32 >>> (y.toUInt32 &&& Int32.toUInt32 31)).toInt32 :: st) hp) : mx_W l E M R mc ms K cells slots pc ls (.int y :: .int x :: st) hp :=
  fun p e s m args below meth c H locs lv C P S L => lv_iushr C.2.1 C.2.2.1 hd rfl (k p e s m args below meth c H locs lv C P S L)
theorem mx_i2c {x : Int32} (hd : decode M.2.1 pc = .ok (.i2c, 1)) (k : mx_W l E M R mc ms K cells slots (pc + 1) ls (.int (x.toUInt32 % 65536).toInt32 :: st) hp) : mx_W l E M R mc ms K cells slots pc ls (.int x :: st) hp :=
  fun p e s m args below meth c H locs lv C P S L => lv_i2c C.2.1 C.2.2.1 hd rfl (k p e s m args below meth c H locs lv C P S L)
theorem mx_dup {a : Value} (hd : decode M.2.1 pc = .ok (.dup, 1)) (ha : a.category = 1) (k : mx_W l E M R mc ms K cells slots (pc + 1) ls (a :: a :: st) hp) : mx_W l E M R mc ms K cells slots pc ls (a :: st) hp :=
  fun p e s m args below meth c H locs lv C P S L => lv_dup C.2.1 C.2.2.1 hd (by rw [mx_v_cat]; exact ha) (k p e s m args below meth c H locs lv C P S L)
theorem mx_pop {a : Value} (hd : decode M.2.1 pc = .ok (.pop, 1)) (ha : a.category = 1) (k : mx_W l E M R mc ms K cells slots (pc + 1) ls st hp) : mx_W l E M R mc ms K cells slots pc ls (a :: st) hp :=
  fun p e s m args below meth c H locs lv C P S L => lv_pop C.2.1 C.2.2.1 hd (by rw [mx_v_cat]; exact ha) (k p e s m args below meth c H locs lv C P S L)
theorem mx_dup_x1 {a b : Value} (hd : decode M.2.1 pc = .ok (.dup_x1, 1)) (ha : a.category = 1) (hb : b.category = 1) (k : mx_W l E M R mc ms K cells slots (pc + 1) ls (a :: b :: a :: st) hp) : mx_W l E M R mc ms K cells slots pc ls (a :: b :: st) hp :=
  fun p e s m args below meth c H locs lv C P S L => lv_dup_x1 C.2.1 C.2.2.1 hd (by rw [mx_v_cat]; exact ha) (by rw [mx_v_cat]; exact hb) (k p e s m args below meth c H locs lv C P S L)
theorem mx_dup_x2 {a b d : Value} (hd : decode M.2.1 pc = .ok (.dup_x2, 1)) (ha : a.category = 1) (hb : b.category = 1) (hc : d.category = 1) (k : mx_W l E M R mc ms K cells slots (pc + 1) ls (a :: b :: d :: a :: st) hp) : mx_W l E M R mc ms K cells slots pc ls (a :: b :: d :: st) hp :=
  fun p e s m args below meth c H locs lv C P S L => lv_dup_x2 C.2.1 C.2.2.1 hd (by rw [mx_v_cat]; exact ha) (by rw [mx_v_cat]; exact hb) (by rw [mx_v_cat]; exact hc) (k p e s m args below meth c H locs lv C P S L)
theorem mx_dup2 {a b : Value} (hd : decode M.2.1 pc = .ok (.dup2, 1)) (ha : a.category = 1) (hb : b.category = 1) (k : mx_W l E M R mc ms K cells slots (pc + 1) ls (a :: b :: a :: b :: st) hp) : mx_W l E M R mc ms K cells slots pc ls (a :: b :: st) hp :=
  fun p e s m args below meth c H locs lv C P S L => lv_dup2_11 C.2.1 C.2.2.1 hd (by rw [mx_v_cat]; exact ha) (by rw [mx_v_cat]; exact hb) (k p e s m args below meth c H locs lv C P S L)
theorem mx_if_eq {x : Int32} {off : Int} {tgt : Nat} (hd : decode M.2.1 pc = .ok (.ifCond .eq off, 3)) (ht : (pc : Int) + off = (tgt : Int)) (kt : x = 0 → mx_W l E M R mc ms K cells slots tgt ls st hp) (kf : ¬ (x = 0) → mx_W l E M R mc ms K cells slots (pc + 3) ls st hp) : mx_W l E M R mc ms K cells slots pc ls (.int x :: st) hp :=
  fun p e s m args below meth c H locs lv C P S L => lv_if_eq C.2.1 C.2.2.1 hd ht (fun q => kt q p e s m args below meth c H locs lv C P S L) (fun q => kf q p e s m args below meth c H locs lv C P S L)
theorem mx_icmp_eq {x y : Int32} {off : Int} {tgt : Nat} (hd : decode M.2.1 pc = .ok (.if_icmp .eq off, 3)) (ht : (pc : Int) + off = (tgt : Int)) (kt : x = y → mx_W l E M R mc ms K cells slots tgt ls st hp) (kf : ¬ (x = y) → mx_W l E M R mc ms K cells slots (pc + 3) ls st hp) : mx_W l E M R mc ms K cells slots pc ls (.int y :: .int x :: st) hp :=
  fun p e s m args below meth c H locs lv C P S L => lv_icmp_eq C.2.1 C.2.2.1 hd ht (fun q => kt q p e s m args below meth c H locs lv C P S L) (fun q => kf q p e s m args below meth c H locs lv C P S L)
theorem mx_if_ne {x : Int32} {off : Int} {tgt : Nat} (hd : decode M.2.1 pc = .ok (.ifCond .ne off, 3)) (ht : (pc : Int) + off = (tgt : Int)) (kt : x ≠ 0 → mx_W l E M R mc ms K cells slots tgt ls st hp) (kf : x = 0 → mx_W l E M R mc ms K cells slots (pc + 3) ls st hp) : mx_W l E M R mc ms K cells slots pc ls (.int x :: st) hp :=
  fun p e s m args below meth c H locs lv C P S L => lv_if_ne C.2.1 C.2.2.1 hd ht (fun q => kt q p e s m args below meth c H locs lv C P S L) (fun q => kf q p e s m args below meth c H locs lv C P S L)
theorem mx_icmp_ne {x y : Int32} {off : Int} {tgt : Nat} (hd : decode M.2.1 pc = .ok (.if_icmp .ne off, 3)) (ht : (pc : Int) + off = (tgt : Int)) (kt : x ≠ y → mx_W l E M R mc ms K cells slots tgt ls st hp) (kf : x = y → mx_W l E M R mc ms K cells slots (pc + 3) ls st hp) : mx_W l E M R mc ms K cells slots pc ls (.int y :: .int x :: st) hp :=
  fun p e s m args below meth c H locs lv C P S L => lv_icmp_ne C.2.1 C.2.2.1 hd ht (fun q => kt q p e s m args below meth c H locs lv C P S L) (fun q => kf q p e s m args below meth c H locs lv C P S L)
theorem mx_if_lt {x : Int32} {off : Int} {tgt : Nat} (hd : decode M.2.1 pc = .ok (.ifCond .lt off, 3)) (ht : (pc : Int) + off = (tgt : Int)) (kt : x < 0 → mx_W l E M R mc ms K cells slots tgt ls st hp) (kf : ¬ (x < 0) → mx_W l E M R mc ms K cells slots (pc + 3) ls st hp) : mx_W l E M R mc ms K cells slots pc ls (.int x :: st) hp :=
  fun p e s m args below meth c H locs lv C P S L => lv_if_lt C.2.1 C.2.2.1 hd ht (fun q => kt q p e s m args below meth c H locs lv C P S L) (fun q => kf q p e s m args below meth c H locs lv C P S L)
theorem mx_icmp_lt {x y : Int32} {off : Int} {tgt : Nat} (hd : decode M.2.1 pc = .ok (.if_icmp .lt off, 3)) (ht : (pc : Int) + off = (tgt : Int)) (kt : x < y → mx_W l E M R mc ms K cells slots tgt ls st hp) (kf : ¬ (x < y) → mx_W l E M R mc ms K cells slots (pc + 3) ls st hp) : mx_W l E M R mc ms K cells slots pc ls (.int y :: .int x :: st) hp :=
  fun p e s m args below meth c H locs lv C P S L => lv_icmp_lt C.2.1 C.2.2.1 hd ht (fun q => kt q p e s m args below meth c H locs lv C P S L) (fun q => kf q p e s m args below meth c H locs lv C P S L)
theorem mx_if_ge {x : Int32} {off : Int} {tgt : Nat} (hd : decode M.2.1 pc = .ok (.ifCond .ge off, 3)) (ht : (pc : Int) + off = (tgt : Int)) (kt : 0 ≤ x → mx_W l E M R mc ms K cells slots tgt ls st hp) (kf : ¬ (0 ≤ x) → mx_W l E M R mc ms K cells slots (pc + 3) ls st hp) : mx_W l E M R mc ms K cells slots pc ls (.int x :: st) hp :=
  fun p e s m args below meth c H locs lv C P S L => lv_if_ge C.2.1 C.2.2.1 hd ht (fun q => kt q p e s m args below meth c H locs lv C P S L) (fun q => kf q p e s m args below meth c H locs lv C P S L)
theorem mx_icmp_ge {x y : Int32} {off : Int} {tgt : Nat} (hd : decode M.2.1 pc = .ok (.if_icmp .ge off, 3)) (ht : (pc : Int) + off = (tgt : Int)) (kt : y ≤ x → mx_W l E M R mc ms K cells slots tgt ls st hp) (kf : ¬ (y ≤ x) → mx_W l E M R mc ms K cells slots (pc + 3) ls st hp) : mx_W l E M R mc ms K cells slots pc ls (.int y :: .int x :: st) hp :=
  fun p e s m args below meth c H locs lv C P S L => lv_icmp_ge C.2.1 C.2.2.1 hd ht (fun q => kt q p e s m args below meth c H locs lv C P S L) (fun q => kf q p e s m args below meth c H locs lv C P S L)
theorem mx_if_gt {x : Int32} {off : Int} {tgt : Nat} (hd : decode M.2.1 pc = .ok (.ifCond .gt off, 3)) (ht : (pc : Int) + off = (tgt : Int)) (kt : 0 < x → mx_W l E M R mc ms K cells slots tgt ls st hp) (kf : ¬ (0 < x) → mx_W l E M R mc ms K cells slots (pc + 3) ls st hp) : mx_W l E M R mc ms K cells slots pc ls (.int x :: st) hp :=
  fun p e s m args below meth c H locs lv C P S L => lv_if_gt C.2.1 C.2.2.1 hd ht (fun q => kt q p e s m args below meth c H locs lv C P S L) (fun q => kf q p e s m args below meth c H locs lv C P S L)
theorem mx_icmp_gt {x y : Int32} {off : Int} {tgt : Nat} (hd : decode M.2.1 pc = .ok (.if_icmp .gt off, 3)) (ht : (pc : Int) + off = (tgt : Int)) (kt : y < x → mx_W l E M R mc ms K cells slots tgt ls st hp) (kf : ¬ (y < x) → mx_W l E M R mc ms K cells slots (pc + 3) ls st hp) : mx_W l E M R mc ms K cells slots pc ls (.int y :: .int x :: st) hp :=
  fun p e s m args below meth c H locs lv C P S L => lv_icmp_gt C.2.1 C.2.2.1 hd ht (fun q => kt q p e s m args below meth c H locs lv C P S L) (fun q => kf q p e s m args below meth c H locs lv C P S L)
theorem mx_if_le {x : Int32} {off : Int} {tgt : Nat} (hd : decode M.2.1 pc = .ok (.ifCond .le off, 3)) (ht : (pc : Int) + off = (tgt : Int)) (kt : x ≤ 0 → mx_W l E M R mc ms K cells slots tgt ls st hp) (kf : ¬ (x ≤ 0) → mx_W l E M R mc ms K cells slots (pc + 3) ls st hp) : mx_W l E M R mc ms K cells slots pc ls (.int x :: st) hp :=
  fun p e s m args below meth c H locs lv C P S L => lv_if_le C.2.1 C.2.2.1 hd ht (fun q => kt q p e s m args below meth c H locs lv C P S L) (fun q => kf q p e s m args below meth c H locs lv C P S L)
theorem mx_icmp_le {x y : Int32} {off : Int} {tgt : Nat} (hd : decode M.2.1 pc = .ok (.if_icmp .le off, 3)) (ht : (pc : Int) + off = (tgt : Int)) (kt : x ≤ y → mx_W l E M R mc ms K cells slots tgt ls st hp) (kf : ¬ (x ≤ y) → mx_W l E M R mc ms K cells slots (pc + 3) ls st hp) : mx_W l E M R mc ms K cells slots pc ls (.int y :: .int x :: st) hp :=
  fun p e s m args below meth c H locs lv C P S L => lv_icmp_le C.2.1 C.2.2.1 hd ht (fun q => kt q p e s m args below meth c H locs lv C P S L) (fun q => kf q p e s m args below meth c H locs lv C P S L)
theorem mx_goto {off : Int} {tgt : Nat} (hd : decode M.2.1 pc = .ok (.goto off, 3)) (ht : (pc : Int) + off = (tgt : Int)) (k : mx_W l E M R mc ms K cells slots tgt ls st hp) : mx_W l E M R mc ms K cells slots pc ls st hp :=
  fun p e s m args below meth c H locs lv C P S L => lv_goto C.2.1 C.2.2.1 hd ht (k p e s m args below meth c H locs lv C P S L)
theorem mx_tableOut {dflt lo hi : Int} {offs : Array Int} {len : Nat} {x : Int32} {tgt : Nat} (hd : decode M.2.1 pc = .ok (.tableswitch dflt lo hi offs, len)) (h : x.toInt < lo ∨ hi < x.toInt) (ht : (pc : Int) + dflt = (tgt : Int)) (k : mx_W l E M R mc ms K cells slots tgt ls st hp) : mx_W l E M R mc ms K cells slots pc ls (.int x :: st) hp :=
  fun p e s m args below meth c H locs lv C P S L => lv_tableOut C.2.1 C.2.2.1 hd h ht (k p e s m args below meth c H locs lv C P S L)
theorem mx_tableIn {dflt lo hi : Int} {offs : Array Int} {len : Nat} {x : Int32} {off : Int} {tgt : Nat} (hd : decode M.2.1 pc = .ok (.tableswitch dflt lo hi offs, len)) (h1 : ¬ x.toInt < lo) (h2 : ¬ hi < x.toInt) (ho : offs[(x.toInt - lo).toNat]? = some off) (ht : (pc : Int) + off = (tgt : Int)) (k : mx_W l E M R mc ms K cells slots tgt ls st hp) : mx_W l E M R mc ms K cells slots pc ls (.int x :: st) hp :=
  fun p e s m args below meth c H locs lv C P S L => lv_tableIn C.2.1 C.2.2.1 hd h1 h2 ho ht (k p e s m args below meth c H locs lv C P S L)
/-- what is known of a sort of objects by its number -/
def mx_cl (ci : Nat) (C : String) (T : u_T) (N : Nat) (ty : Nat → FieldType) : Prop := vwCl[ci]? = some (C, T, N) ∧ (∀ w ∈ u_ws C T N, w ∈ mx_tb) ∧ (∀ k, k < N → parseFieldDescriptor (T k).2.2.1 = some (ty k)) ∧ (∀ a, a < N → ∀ b, b < N → a ≠ b → (T a).2.1 ≠ (T b).2.1)
theorem mx_getfield {index i ci k N : Nat} {C : String} {T : u_T} {ty : Nat → FieldType} {fs : List Value} {v : Value} (hd : decode M.2.1 pc = .ok (.getfield index, 3)) (hc : mx_cl ci C T N ty) (hw : Cond.fieldLink M.1.cls index (T k).1 (T k).2.1 (T k).2.2.1 ∈ mx_tb) (hk : k < N) (hi : hp[i]? = some (.inr (ci, fs))) (hv : fs[k]? = some v) (kk : mx_W l E M R mc ms K cells slots (pc + 3) ls (v :: st) hp) : mx_W l E M R mc ms K cells slots pc ls (.ref i :: st) hp :=
  fun p e s m args below meth c H locs lv C0 P S L => va_get (own := M.1.cls) C0.2.1 C0.2.2.1 C0.2.2.2.2.2.2.2.2.1 hc.2.1 C0.2.2.2.2.2.2.2.1 C0.2.2.2.2.2.2.2.2.2.1 P.1 i (mx_w_at hi) hc.1 k hk (C0.2.2.2.2.2.2.2.2.1 _ hw) (fun _ h => h) (by rw [List.getElem?_map, hv]; rfl) hd (kk p e s m args below meth c H locs lv C0 P S L)
theorem mx_C.kn {p : Program} {s : State} {m : MethodId} {args : Array Value} {meth : Method} {c : Code} (C0 : mx_C E M p s m args meth c) : mx_K E s := C0.2.2.2.2.2.2.2.2.2.1
theorem mx_C.X {p : Program} {s : State} {m : MethodId} {args : Array Value} {meth : Method} {c : Code} (C0 : mx_C E M p s m args meth c) : mx_X E s s.heap := C0.2.2.2.2.2.2.2.2.2.2.2
theorem mx_C.ts {p : Program} {s : State} {m : MethodId} {args : Array Value} {meth : Method} {c : Code} (C0 : mx_C E M p s m args meth c) : ∀ w ∈ mx_tb, w.before args s = true := C0.2.2.2.2.2.2.2.2.1
theorem mx_C.own {p : Program} {s : State} {m : MethodId} {args : Array Value} {meth : Method} {c : Code} (C0 : mx_C E M p s m args meth c) : s.vm.findClass M.1.cls = some m.cls := C0.2.2.2.2.2.2.2.1
theorem mx_C.nm {p : Program} {s : State} {m : MethodId} {args : Array Value} {meth : Method} {c : Code} (C0 : mx_C E M p s m args meth c) : M.1.name = "<init>" → meth.name = "<init>" := C0.2.2.2.2.2.2.1
theorem mx_putfield {index i ci k N : Nat} {C : String} {T : u_T} {ty : Nat → FieldType} {fs : List Value} {v : Value} (hd : decode M.2.1 pc = .ok (.putfield index, 3)) (hc : mx_cl ci C T N ty) (hw : Cond.fieldLink M.1.cls index (T k).1 (T k).2.1 (T k).2.2.1 ∈ mx_tb) (hk : k < N) (hf : (T k).2.2.2 = false ∨ ((T k).2.2.2 = true ∧ M.1.name = "<init>" ∧ (T k).1 = M.1.cls)) (hi : hp[i]? = some (.inr (ci, fs))) (hl : k < fs.length) (hn : narrow (ty k) (mx_v E.1 v) = mx_v E.1 v) (ht : fits (ty k) (mx_v E.1 v) = true) (kk : mx_W l E M R mc ms K cells slots (pc + 3) ls st (hp.set i (.inr (ci, fs.set k v)))) : mx_W l E M R mc ms K cells slots pc ls (v :: .ref i :: st) hp :=
  fun p e s m args below meth c H locs lv C0 P S L => by
    have hD := P.D C0.1
    have hwi := mx_w_at (r := E.1) (cA := E.2.1) hi
    have kk2 : ∀ (H1 : Heap) (locs1 : List Loc), va_P (E.2.2.1, E.2.2.2.1) vwCl ((mx_w E.1 E.2.1 hp).set i (E.1 i, .inr (ci, (fs.map (mx_v E.1)).set k (mx_v E.1 v)))) H1 → H1.size = H.size → va_S (mx_A E) s.heap H1 locs1 → W p l e R s m args below meth c H1 locs1 cells slots (MQ below (mx_Q E K) args s mc ms (mx_A E)) (F0 m (pc + 3) lv (st.map (mx_v E.1))) := by
      intro H1 locs1 hP hz hS
      have e1 : (mx_w E.1 E.2.1 hp).set i (E.1 i, .inr (ci, (fs.map (mx_v E.1)).set k (mx_v E.1 v))) = mx_w E.1 E.2.1 (hp.set i (.inr (ci, fs.set k v))) := by
        rw [← mx_w_set]
        simp [mx_e, List.map_set]
      rw [e1] at hP
      exact kk p e s m args below meth c H1 locs1 lv C0 ⟨hP, by rw [hz, List.length_set]; exact P.2.1, by rw [List.length_set]; exact P.2.2⟩ hS L
    have hap := va_apart (own := M.1.cls) C0.ts hc.2.1 ty hc.2.2.1 hc.2.2.2 C0.kn hc.1
    obtain ⟨r0, h1, cell, q1, q2, q3, q4⟩ := P.1 i _ hwi
    have hr : r0 = (C, T, N) := Option.some.inj (h1.symm.trans hc.1)
    subst hr
    obtain ⟨hSl, hfc, kC, hkC, hkind⟩ := C0.kn.1 ci _ hc.1
    obtain ⟨cf, kf, fi, f, hfi, hsl⟩ := hSl k hk
    have hlay := C0.ts _ (hc.2.1 _ (u_in_lay hk))
    have hst := (u_facts hfc hkC (u_lays C0.ts hc.2.1 hk) hfi).1
    have fin : ∀ (H' : Heap), H'[E.1 i]? = some (cell.setSlot f.slot (mx_v E.1 v)) → H'.size = H.size → (∀ q, q ≠ E.1 i → H'[q]? = H[q]?) → W p l e R s m args below meth c H' (locs ++ [⟨E.1 i, f.slot⟩]) cells slots (MQ below (mx_Q E K) args s mc ms (mx_A E)) (F0 m (pc + 3) lv (st.map (mx_v E.1))) := by
      intro H' e1 e2 e3
      rw [hsl] at e1 ⊢
      exact kk2 H' _ (P.1.set hD hwi ⟨_, hc.1, t_OB.to (V := updV (vp_V (fs.map (mx_v E.1))) k (mx_v E.1 v)) ⟨_, e1, q2, q3, t_set q4 hap hk (mx_v E.1 v)⟩ (fun j _ => vp_updV_set (by rw [List.length_map]; exact hl) (mx_v E.1 v) j)⟩ e3) e2 (S.put e2 e3 (hD.2 i _ hwi))
    unfold u_lay at hlay
    rcases hf with hf | ⟨hf, hin2, hdecl⟩
    · rw [if_neg (by rw [hf]; decide)] at hlay
      have h6 := u_store hfc hkC hkind hlay hfi (hc.2.2.1 k hk) hn ht
      exact W.putK (own := M.1.cls) C0.2.1 C0.2.2.1 (f := f) ⟨C0.own, C0.ts _ hw, ⟨_, _, _, hfi⟩, hst⟩ (by rw [q2]; exact h6) q1 q3 (by rw [hsl]; exact k2_hasslot (q4 k hk)) rfl rfl hd fin
    · rw [if_pos hf] at hlay
      have hcf : m.cls = cf := by
        obtain ⟨_, _, c', _, _, _, -, -, hf', -, -, -, hown2, -⟩ := Cond.laysFinal_spec hlay
        have e1 : c' = cf := by have := hfi.symm.trans hf'; simp at this; exact this.1.symm
        rw [hdecl] at hown2
        rw [← e1]; exact Option.some.inj (C0.own.symm.trans hown2)
      have h6 := u_fits hfc hkC hkind (Or.inr hlay) hfi (hc.2.2.1 k hk) hn ht
      exact W.putFinK (own := M.1.cls) C0.2.1 C0.2.2.1 C0.own (C0.ts _ hw) hfi hst hcf (C0.nm hin2) (by rw [q2]; exact h6) q1 q3 (by rw [hsl]; exact k2_hasslot (q4 k hk)) rfl rfl hd fin
theorem mx_iaload {i n : Nat} {f : Nat → Int32} {j : Int32} (hd : decode M.2.1 pc = .ok (.iaload, 1)) (hi : hp[i]? = some (.inl (0, n, .inl f))) (hj : vp_in j n) (kk : mx_W l E M R mc ms K cells slots (pc + 1) ls (.int (f j.toNatClampNeg) :: st) hp) : mx_W l E M R mc ms K cells slots pc ls (.int j :: .ref i :: st) hp :=
  fun p e s m args below meth c H locs lv C0 P S L => va_iald C0.2.1 C0.2.2.1 C0.kn P.1 i 0 (mx_w_at hi) rfl hj hd (kk p e s m args below meth c H locs lv C0 P S L)
theorem mx_zaload {i n : Nat} {f : Nat → Int32} {j : Int32} (hd : decode M.2.1 pc = .ok (.baload, 1)) (hi : hp[i]? = some (.inl (1, n, .inl f))) (hj : vp_in j n) (kk : mx_W l E M R mc ms K cells slots (pc + 1) ls (.int (f j.toNatClampNeg) :: st) hp) : mx_W l E M R mc ms K cells slots pc ls (.int j :: .ref i :: st) hp :=
  fun p e s m args below meth c H locs lv C0 P S L => va_zald C0.2.1 C0.2.2.1 C0.kn P.1 i 1 (mx_w_at hi) rfl hj hd (kk p e s m args below meth c H locs lv C0 P S L)
theorem mx_alen {i t n : Nat} {a : vp_A} (hd : decode M.2.1 pc = .ok (.arraylength, 1)) (hi : hp[i]? = some (.inl (t, a))) (ht : t < 3) (kk : mx_W l E M R mc ms K cells slots (pc + 1) ls (.int (Int32.ofNat a.1) :: st) hp) : mx_W l E M R mc ms K cells slots pc ls (.ref i :: st) hp :=
  fun p e s m args below meth c H locs lv C0 P S L => by
    have hw := mx_w_at (r := E.1) (cA := E.2.1) hi
    have hg := kk p e s m args below meth c H locs lv C0 P S L
    match t, ht, hw with
    | 0, _, hw => exact va_alen C0.2.1 C0.2.2.1 C0.kn P.1 i 0 hw (ty := .int) rfl rfl hd hg
    | 1, _, hw => exact va_alen C0.2.1 C0.2.2.1 C0.kn P.1 i 1 hw (ty := .boolean) rfl rfl hd hg
    | 2, _, hw => exact va_alen C0.2.1 C0.2.2.1 C0.kn P.1 i 2 hw (ty := .byte) rfl rfl hd hg
theorem mx_iastore {i n : Nat} {f : Nat → Int32} {j x : Int32} (hd : decode M.2.1 pc = .ok (.iastore, 1)) (hi : hp[i]? = some (.inl (0, n, .inl f))) (hj : vp_in j n) (kk : mx_W l E M R mc ms K cells slots (pc + 1) ls st (hp.set i (.inl (0, n, .inl (upd f j.toNatClampNeg x))))) : mx_W l E M R mc ms K cells slots pc ls (.int x :: .int j :: .ref i :: st) hp :=
  fun p e s m args below meth c H locs lv C0 P S L => by
    have hD := P.D C0.1
    have hwi := mx_w_at (r := E.1) (cA := E.2.1) hi
    refine W.iast C0.2.1 C0.2.2.1 (P.1 i _ hwi) ((C0.kn.2 0 _ rfl).1 n (fun j => .int (f j))) (fun q => by cases q) (by show ¬ (j < 0 ∨ (arrV _ _ _).slots.size ≤ _); rw [arrV_size]; exact hj) rfl rfl hd fun H1 e1 z oq => ?_
    have hP := P.1.set (e := .inl (E.2.1 0, n, .inl (upd f j.toNatClampNeg x))) hD hwi (H1 := H1) (by
      show H1[E.1 i]? = some (vp_cell _ _)
      rw [e1]
      show some ((vp_cell (E.2.1 0) (n, .inl f)).setSlot _ _) = _
      rw [vp_cell_i, vp_cell_i, arrV_store]
      congr 2
      funext q
      by_cases hq : q = j.toNatClampNeg
      · subst hq
        simp [updV, upd, vp_nar]
        try rfl
      · simp [updV, upd, hq]) oq
    rw [show (E.1 i, (Sum.inl (E.2.1 0, n, .inl (upd f j.toNatClampNeg x)) : va_E)) = (E.1 i, mx_e E.1 E.2.1 (.inl (0, n, .inl (upd f j.toNatClampNeg x)))) from rfl, mx_w_set] at hP
    exact kk p e s m args below meth c H1 _ lv C0 ⟨hP, by rw [z, List.length_set]; exact P.2.1, by rw [List.length_set]; exact P.2.2⟩ (S.put z oq (hD.2 i _ hwi)) L
theorem mx_zastore {i n : Nat} {f : Nat → Int32} {j x : Int32} (hd : decode M.2.1 pc = .ok (.bastore, 1)) (hi : hp[i]? = some (.inl (1, n, .inl f))) (hj : vp_in j n) (kk : mx_W l E M R mc ms K cells slots (pc + 1) ls st (hp.set i (.inl (1, n, .inl (upd f j.toNatClampNeg (vp_nar .boolean x)))))) : mx_W l E M R mc ms K cells slots pc ls (.int x :: .int j :: .ref i :: st) hp :=
  fun p e s m args below meth c H locs lv C0 P S L => by
    have hD := P.D C0.1
    have hwi := mx_w_at (r := E.1) (cA := E.2.1) hi
    refine W.zast C0.2.1 C0.2.2.1 (P.1 i _ hwi) ((C0.kn.2 1 _ rfl).1 n (fun j => .int (f j))) (fun q => by cases q) (by show ¬ (j < 0 ∨ (arrV _ _ _).slots.size ≤ _); rw [arrV_size]; exact hj) rfl rfl hd fun H1 e1 z oq => ?_
    have hP := P.1.set (e := .inl (E.2.1 1, n, .inl (upd f j.toNatClampNeg (vp_nar .boolean x)))) hD hwi (H1 := H1) (by
      show H1[E.1 i]? = some (vp_cell _ _)
      rw [e1]
      show some ((vp_cell (E.2.1 1) (n, .inl f)).setSlot _ _) = _
      rw [vp_cell_i, vp_cell_i, arrV_store]
      congr 2
      funext q
      by_cases hq : q = j.toNatClampNeg
      · subst hq
        simp [updV, upd, vp_nar]
        try rfl
      · simp [updV, upd, hq]) oq
    rw [show (E.1 i, (Sum.inl (E.2.1 1, n, .inl (upd f j.toNatClampNeg (vp_nar .boolean x))) : va_E)) = (E.1 i, mx_e E.1 E.2.1 (.inl (1, n, .inl (upd f j.toNatClampNeg (vp_nar .boolean x))))) from rfl, mx_w_set] at hP
    exact kk p e s m args below meth c H1 _ lv C0 ⟨hP, by rw [z, List.length_set]; exact P.2.1, by rw [List.length_set]; exact P.2.2⟩ (S.put z oq (hD.2 i _ hwi)) L
theorem mx_P.push {hp : List va_E} {H H1 : Heap} {x : va_E} (hE : mx_ok E) (P : mx_P E hp H) (hl : hp.length < 600000) (z : H1.size = H.size + 1) (o : ∀ q, q < H.size → H1[q]? = H[q]?) (hx : va_at (E.2.2.1, E.2.2.2.1) vwCl (H.size, mx_e E.1 E.2.1 x) H1) : mx_P E (hp ++ [x]) H1 := by
  refine ⟨?_, by rw [z, P.2.1, List.length_append]; rfl, by rw [List.length_append]; exact hl⟩
  rw [← mx_w_push]
  have hr : E.1 hp.length = H.size := by rw [hE.1 _ (by omega), P.2.1]
  rw [hr]
  refine (P.1.kept (fun k q hk => o q.1 ((P.1 k q hk).lt))).app (fun k q hk => ?_)
  have hz : k < 1 := (List.getElem?_eq_some_iff.mp hk).1
  rw [show k = 0 by omega] at hk
  cases hk
  exact hx
theorem mx_S.push {A : Nat → Prop} {H0 H H1 : Heap} {locs : List Loc} (S : va_S A H0 H locs) (z : H1.size = H.size + 1) (o : ∀ q, q < H.size → H1[q]? = H[q]?) : va_S A H0 H1 locs :=
  ⟨Nat.le_trans S.1 (by omega), fun q h1 h2 => (o q (Nat.lt_of_lt_of_le h1 S.1)).trans (S.2.1 q h1 h2), S.2.2⟩
theorem mx_new {index ci N : Nat} {C : String} {T : u_T} {ty : Nat → FieldType} {fs : List Value} (hd : decode M.2.1 pc = .ok (.new index, 3)) (hc : mx_cl ci C T N ty) (hw : Cond.classLink M.1.cls index C ∈ mx_tb) (hw2 : Cond.instantiable C N ∈ mx_tb) (hw3 : Cond.initialized C ∈ mx_tb) (hfs : ∀ j, j < N → defaultValue (ty j) = vp_V (fs.map (mx_v E.1)) j) (hcells : cells + 1 ≤ R.cells) (hslots : slots + N ≤ R.slots) (hl : hp.length < 600000) (kk : mx_W l E M R mc ms K (cells + 1) (slots + N) (pc + 3) ls (.ref hp.length :: st) (hp ++ [.inr (ci, fs)])) : mx_W l E M R mc ms K cells slots pc ls st hp :=
  fun p e s m args below meth c H locs lv C0 P S L => by
    have hKn := C0.kn.1 ci _ hc.1
    refine W.newcK (own := M.1.cls) C0.2.1 C0.2.2.1 C0.own (C0.ts _ hw) (C0.ts _ hw2) (C0.ts _ hw3) rfl hd hcells hslots hKn.2.1 rfl fun H1 kC hkC e1 z1 o1 => ?_
    have hr : E.1 hp.length = H.size := by rw [C0.1.1 _ (by omega), P.2.1]
    have hg := kk p e s m args below meth c H1 locs lv C0 (mx_P.push (x := .inr (ci, fs)) C0.1 P hl z1 o1 ⟨_, hc.1, (u_born ty C0.ts hc.2.1 hKn hkC e1 hc.2.2.1).to hfs⟩) (mx_S.push S z1 o1) L
    rw [List.map_cons, show mx_v E.1 (.ref hp.length) = .ref H.size from congrArg Value.ref hr] at hg
    exact hg
theorem mx_newi {n : Int32} {N : Nat} (hd : decode M.2.1 pc = .ok (.newarray .int, 2)) (hw : Cond.arrayClass .int ∈ mx_tb) (hn : ¬ n < 0) (hN : n.toNatClampNeg = N) (hb : N ≤ 1000000) (hcells : cells + 1 ≤ R.cells) (hslots : slots + N ≤ R.slots) (hl : hp.length < 600000) (kk : mx_W l E M R mc ms K (cells + 1) (slots + N) (pc + 2) ls (.ref hp.length :: st) (hp ++ [.inl (0, N, .inl (fun _ => 0))])) : mx_W l E M R mc ms K cells slots pc ls (.int n :: st) hp :=
  fun p e s m args below meth c H locs lv C0 P S L => by
    refine va_newaK C0.2.1 C0.2.2.1 (atype := .int) (C0.ts _ hw) rfl hd rfl hn hN (by show N * 4 ≤ _; omega) hcells hslots rfl fun H1 cA e1 z1 o1 hAr hNm => ?_
    have hr : E.1 hp.length = H.size := by rw [C0.1.1 _ (by omega), P.2.1]
    have hcA : cA = E.2.1 0 := Option.some.inj (hNm.symm.trans (C0.kn.2 0 _ rfl).2)
    have hg := kk p e s m args below meth c H1 locs lv C0 (mx_P.push (x := .inl (0, N, .inl (fun _ => 0))) C0.1 P hl z1 o1 (by rw [← hr] at e1; show H1[H.size]? = _; rw [← hr, e1, hcA]; rfl)) (mx_S.push S z1 o1) L
    rw [List.map_cons, show mx_v E.1 (.ref hp.length) = .ref H.size from congrArg Value.ref hr] at hg
    exact hg
theorem mx_newz {n : Int32} {N : Nat} (hd : decode M.2.1 pc = .ok (.newarray .boolean, 2)) (hw : Cond.arrayClass .boolean ∈ mx_tb) (hn : ¬ n < 0) (hN : n.toNatClampNeg = N) (hb : N ≤ 1000000) (hcells : cells + 1 ≤ R.cells) (hslots : slots + N ≤ R.slots) (hl : hp.length < 600000) (kk : mx_W l E M R mc ms K (cells + 1) (slots + N) (pc + 2) ls (.ref hp.length :: st) (hp ++ [.inl (1, N, .inl (fun _ => 0))])) : mx_W l E M R mc ms K cells slots pc ls (.int n :: st) hp :=
  fun p e s m args below meth c H locs lv C0 P S L => by
    refine va_newaK C0.2.1 C0.2.2.1 (atype := .boolean) (C0.ts _ hw) rfl hd rfl hn hN (by show N * 1 ≤ _; omega) hcells hslots rfl fun H1 cA e1 z1 o1 hAr hNm => ?_
    have hr : E.1 hp.length = H.size := by rw [C0.1.1 _ (by omega), P.2.1]
    have hcA : cA = E.2.1 1 := Option.some.inj (hNm.symm.trans (C0.kn.2 1 _ rfl).2)
    have hg := kk p e s m args below meth c H1 locs lv C0 (mx_P.push (x := .inl (1, N, .inl (fun _ => 0))) C0.1 P hl z1 o1 (by rw [← hr] at e1; show H1[H.size]? = _; rw [← hr, e1, hcA]; rfl)) (mx_S.push S z1 o1) L
    rw [List.map_cons, show mx_v E.1 (.ref hp.length) = .ref H.size from congrArg Value.ref hr] at hg
    exact hg
theorem mx_end {hp : List va_E} {H : Heap} {s t : State} {args : Array Value} {locs : List Loc} {v : Option Value} (hK : K v hp) (P : mx_P E hp H) (S : va_S (mx_A E) s.heap H locs) (ht : t.heap = H) : mx_Q E K args s (.returned (v.map (mx_v E.1))) t := ⟨⟨v, hp, rfl, hK, by rw [ht]; exact P⟩, S.F ht⟩
theorem mx_ireturn {v : Int32} (hd : decode M.2.1 pc = .ok (.ireturn, 1)) (hr : M.2.2.2 = some .int ∨ ∃ ty, M.2.2.2 = some ty ∧ narrow ty (.int v) = .int v) (hc : cells ≤ mc) (hs : slots ≤ ms) (hK : K (some (.int v)) hp) : mx_W l E M R mc ms K cells slots pc ls [.int v] hp :=
  fun p e s m args below meth c H locs lv C0 P S L => W.widen hc hs (by
    have hlocks := C0.2.2.2.2.2.1
    rcases hr with hr | ⟨ty, hr, hv⟩
    · exact W.iret C0.2.1 C0.2.2.1 (C0.2.2.2.2.1.trans hr) (fun t ht hW => mx_end hK P S ht) S.2.2 hd hlocks
    · exact W.zret C0.2.1 C0.2.2.1 (C0.2.2.2.2.1.trans hr) hv (fun t ht hW => mx_end hK P S ht) S.2.2 hd hlocks)
theorem mx_return (hd : decode M.2.1 pc = .ok (.return_, 1)) (hr : M.2.2.2 = none) (hc : cells ≤ mc) (hs : slots ≤ ms) (hK : K none hp) : mx_W l E M R mc ms K cells slots pc ls [] hp :=
  fun p e s m args below meth c H locs lv C0 P S L => W.widen hc hs (W.vret C0.2.1 C0.2.2.1 (C0.2.2.2.2.1.trans hr) (fun t ht hW => mx_end hK P S ht) S.2.2 hd C0.2.2.2.2.2.1)
theorem mx_sld {j : Int32} (hd : decode M.2.1 pc = .ok (.iaload, 1)) (hj : vp_in j E.2.2.2.2.2.2.1) (kk : mx_W l E M R mc ms K cells slots (pc + 1) ls (.int (E.2.2.2.2.2.2.2 j.toNatClampNeg) :: st) hp) : mx_W l E M R mc ms K cells slots pc ls (.int j :: .ref 1000000 :: st) hp :=
  fun p e s m args below meth c H locs lv C0 P S L => by
    have hX := C0.X.1
    have hg := va_sld C0.2.1 C0.2.2.1 hX (Nat.lt_of_lt_of_le C0.1.2.1 C0.2.2.2.2.2.2.2.2.2.2.1) (Nat.not_le.mpr C0.1.2.1) S hj hd (kk p e s m args below meth c H locs lv C0 P S L)
    rw [← C0.1.2.2.1] at hg
    exact hg
theorem mx_slen (hd : decode M.2.1 pc = .ok (.arraylength, 1)) (kk : mx_W l E M R mc ms K cells slots (pc + 1) ls (.int (Int32.ofNat E.2.2.2.2.2.2.1) :: st) hp) : mx_W l E M R mc ms K cells slots pc ls (.ref 1000000 :: st) hp :=
  fun p e s m args below meth c H locs lv C0 P S L => by
    have hX := C0.X.1
    have hg := va_slen C0.2.1 C0.2.2.1 hX (Nat.lt_of_lt_of_le C0.1.2.1 C0.2.2.2.2.2.2.2.2.2.2.1) (Nat.not_le.mpr C0.1.2.1) S hd (kk p e s m args below meth c H locs lv C0 P S L)
    rw [← C0.1.2.2.1] at hg
    exact hg
theorem mx_ldcS {i : Nat} {q : String × Nat × String × Nat} (hd : decode M.2.1 pc = .ok (.ldc i, 2)) (hq : q ∈ mx_lits) (h1 : q.1 = M.1.cls) (h2 : q.2.1 = i) (k : mx_W l E M R mc ms K cells slots (pc + 2) ls (.ref (1000001 + 2 * q.2.2.2) :: st) hp) : mx_W l E M R mc ms K cells slots pc ls st hp :=
  fun p e s m args below meth c H locs lv C0 P S L => by
    have hz := C0.X.2.2.1 q hq
    rw [h1, h2] at hz
    exact va_ldcS C0.2.1 C0.2.2.1 C0.own hz hd (k p e s m args below meth c H locs lv C0 P S L)
theorem mx_gets {index : Nat} (hd : decode M.2.1 pc = .ok (.getstatic index, 3)) (hw : Cond.fieldLink M.1.cls index "java/lang/String" "COMPACT_STRINGS" "Z" ∈ mx_tb) (k : mx_W l E M R mc ms K cells slots (pc + 3) ls (.int 1 :: st) hp) : mx_W l E M R mc ms K cells slots pc ls st hp :=
  fun p e s m args below meth c H locs lv C0 P S L => va_gets C0.2.1 C0.2.2.1 C0.X.2.2.2.1 S C0.own (C0.ts _ hw) (fun _ h => h) hd (k p e s m args below meth c H locs lv C0 P S L)
theorem mx_getsF {index : Nat} (hd : decode M.2.1 pc = .ok (.getstatic index, 3)) (hw : Cond.fieldLink M.1.cls index "jdk/internal/util/Preconditions" "SIOOBE_FORMATTER" "Ljava/util/function/BiFunction;" ∈ mx_tb) (k1 : mx_W l E M R mc ms K cells slots (pc + 3) ls (.null :: st) hp) (k2 : mx_W l E M R mc ms K cells slots (pc + 3) ls (.ref 1000013 :: st) hp) : mx_W l E M R mc ms K cells slots pc ls st hp :=
  fun p e s m args below meth c H locs lv C0 P S L => by
    refine va_gets C0.2.1 C0.2.2.1 C0.X.2.2.2.2.1 S C0.own (C0.ts _ hw) (fun _ h => h) hd ?_
    unfold mx_fm
    split
    · exact k1 p e s m args below meth c H locs lv C0 P S L
    · exact k2 p e s m args below meth c H locs lv C0 P S L
theorem mx_sgetv {index j : Nat} (hj : j < 6) (hd : decode M.2.1 pc = .ok (.getfield index, 3)) (hw : Cond.fieldLink M.1.cls index "java/lang/String" "value" "[B" ∈ mx_tb) (k : mx_W l E M R mc ms K cells slots (pc + 3) ls (.ref (1000002 + 2 * j) :: st) hp) : mx_W l E M R mc ms K cells slots pc ls (.ref (1000001 + 2 * j) :: st) hp :=
  fun p e s m args below meth c H locs lv C0 P S L => vk_getf C0.2.1 C0.2.2.1 (C0.X.2.1.1 j hj).2.2.1 S C0.own (C0.ts _ hw) (fun _ h => h) hd (k p e s m args below meth c H locs lv C0 P S L)
theorem mx_sgetc {index j : Nat} (hj : j < 6) (hd : decode M.2.1 pc = .ok (.getfield index, 3)) (hw : Cond.fieldLink M.1.cls index "java/lang/String" "coder" "B" ∈ mx_tb) (k : mx_W l E M R mc ms K cells slots (pc + 3) ls (.int 0 :: st) hp) : mx_W l E M R mc ms K cells slots pc ls (.ref (1000001 + 2 * j) :: st) hp :=
  fun p e s m args below meth c H locs lv C0 P S L => vk_getf C0.2.1 C0.2.2.1 (C0.X.2.1.1 j hj).2.1 S C0.own (C0.ts _ hw) (fun _ h => h) hd (k p e s m args below meth c H locs lv C0 P S L)
theorem mx_sbld {j : Nat} {i : Int32} (hj : j < 6) (hin : vp_in i (mx_sln.getD j 0)) (hd : decode M.2.1 pc = .ok (.baload, 1)) (k : mx_W l E M R mc ms K cells slots (pc + 1) ls (.int ((mx_sby.getD j []).getD i.toNatClampNeg 0) :: st) hp) : mx_W l E M R mc ms K cells slots pc ls (.int i :: .ref (1000002 + 2 * j) :: st) hp :=
  fun p e s m args below meth c H locs lv C0 P S L => va_tb C0.2.1 C0.2.2.1 (C0.X.2.1.1 j hj).2.2.2 S hin rfl hd (k p e s m args below meth c H locs lv C0 P S L)
theorem mx_sblen {j : Nat} (hj : j < 6) (hd : decode M.2.1 pc = .ok (.arraylength, 1)) (k : mx_W l E M R mc ms K cells slots (pc + 1) ls (.int (Int32.ofNat (mx_sln.getD j 0)) :: st) hp) : mx_W l E M R mc ms K cells slots pc ls (.ref (1000002 + 2 * j) :: st) hp :=
  fun p e s m args below meth c H locs lv C0 P S L => va_tlen C0.2.1 C0.2.2.1 (C0.X.2.1.1 j hj).2.2.2 S rfl hd (k p e s m args below meth c H locs lv C0 P S L)
theorem mx_i2b {x : Int32} (hd : decode M.2.1 pc = .ok (.i2b, 1)) (k : mx_W l E M R mc ms K cells slots (pc + 1) ls (.int x.toInt8.toInt32 :: st) hp) : mx_W l E M R mc ms K cells slots pc ls (.int x :: st) hp :=
  fun p e s m args below meth c H locs lv C0 P S L => lv_i2b C0.2.1 C0.2.2.1 hd rfl (k p e s m args below meth c H locs lv C0 P S L)
end MX
