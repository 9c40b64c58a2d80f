/-! ===== CONTRACTS AND CALLS of the pure machine ===== -/
/-- a method's words -/
def mx_ws (M : mx_Me) : List Cond := .code M.1 M.2.1 M.2.2.1 M.2.2.2 :: mx_tb
/-- a method's contract: from the world hp with these arguments it returns, and K holds of answer and world -/
def mx_M (l : Launch) (E : mx_Ev) (M : mx_Me) (rm : Room) (av : List Value) (hp : List va_E) (K : Option Value → List va_E → Prop) : Prop :=
  Met l M.1 (mx_ws M) rm (va_Pc (av.map (mx_v E.1)) (fun U => mx_P E hp U.heap ∧ mx_K E U ∧ mx_X E U U.heap)) (mx_Q E K) rm.cells rm.slots (mx_A E)
/-- what the tables say of a method -/
def mx_me (M : mx_Me) (n : Nat) : Prop := Cond.code M.1 M.2.1 M.2.2.1 M.2.2.2 ∈ mx_tb ∧ Cond.initialized M.1.cls ∈ mx_tb ∧ plainName M.1.cls = true ∧ (M.1.cls ≠ "java/lang/invoke/MethodHandle" ∧ M.1.cls ≠ "java/lang/invoke/VarHandle" ∧ (parseMethodDescriptor M.1.desc).map (fun d => d.parameters.length) = some n)
theorem mx_goodIn {M : mx_Me} (h : Cond.code M.1 M.2.1 M.2.2.1 M.2.2.2 ∈ mx_tb) : GoodIn mx_tb (mx_ws M) := by
  intro w hw
  have hm : w ∈ mx_tb := by
    rcases List.mem_cons.mp hw with rfl | hw
    · exact h
    · exact hw
  exact ⟨hm, good_of_word (List.mem_filter.mp hm).2⟩
theorem mx_args (r : Nat → Nat) : ∀ (vs : List Value) (k : Nat), lv_args k (vs.map (mx_v r)) = (lv_args k vs).map (fun q => (q.1, mx_v r q.2))
  | [], _ => rfl
  | v :: vs, k => by
    simp only [List.map_cons, lv_args, mx_v_cat]
    rw [mx_args r vs]
theorem mx_sl_len (r : Nat → Nat) : ∀ av : List Value, (lg_sl (av.map (mx_v r))).length = (lg_sl av).length
  | [] => rfl
  | v :: vs => by
    have ih := mx_sl_len r vs
    simp only [lg_sl] at ih
    simp only [lg_sl, List.map_cons, List.flatMap_cons, List.length_append, mx_v_cat, ih]
    split <;> rfl
section MXC
variable {l : Launch} {E : mx_Ev} {M : mx_Me} {R : Room} {mc ms : Nat} {K : Option Value → List va_E → Prop} {cells slots pc : Nat} {ls : List (Nat × Value)} {st : List Value} {hp : List va_E}
theorem mx_intro {rm : Room} {av : List Value} {n : Nat} (hE : mx_ok E) (hme : mx_me M n) (hlen : (lg_sl av).length ≤ M.2.2.1) (h : mx_W l E M rm rm.cells rm.slots K 0 0 0 (lv_args 0 av) [] hp) : mx_M l E M rm av hp K := by
  refine Met.ofW (cc := M.2.1) (maxL := M.2.2.1) (ret := M.2.2.2) hme.2.2.1 rfl ?_
  intro p e s m args below meth c s₁ B hml hv
  obtain ⟨rfl, hP, hKn, hX⟩ := hv
  have hts := atoms_spec (ws := mx_ws M) B.pre
  have hle : (lg_sl (av.map (mx_v E.1))).length ≤ M.2.2.1 := by
    rw [mx_sl_len]; exact hlen
  have hl := lv_entry (av.map (mx_v E.1)) (n := M.2.2.1) hle
  rw [lg_entry_eq]
  rw [mx_args] at hl
  exact h p e s m _ below meth c s.heap [] _ ⟨hE, B.exec, B.bytes, hml, B.returns, B.notSynchronized, fun h => (name_of_methodNamed B.named B.method).1.trans h, findClass_of_methodNamed B.named, fun w hw => hts w (List.mem_cons_of_mem _ hw), hKn, by rw [hP.2.1]; exact Nat.le_add_right _ _, hX⟩ hP va_S.rf hl
/-- behind a call -/
theorem mx_behind {p : Program} {e : Env} {s : State} {m : MethodId} {args : Array Value} {below : List Frame} {meth : Method} {c : Code} {H : Heap} {locs : List Loc} {lv : Array Slot} {rc rs : Nat} {st0 rest : List Value} {a : Array Value} {K' : Option Value → List va_E → Prop}
    (hr : va_Run p l e R s m args below meth c H locs cells slots rc rs (F0 m pc lv st0) (rest.map (mx_v E.1)) (mx_Q E K' a) (mx_A E)) (C0 : mx_C E M p s m args meth c) (S : va_S (mx_A E) s.heap H locs) (L : lv_has lv M.2.2.1 (ls.map (fun q => (q.1, mx_v E.1 q.2))))
    (kk : ∀ (v : Option Value) (hp' : List va_E), K' v hp' → mx_W l E M R mc ms K (cells + rc) (slots + rs) (pc + 3) ls (v.toList ++ rest) hp') :
    W p l e R s m args below meth c H locs cells slots (MQ below (mx_Q E K) args s mc ms (mx_A E)) (F0 m pc lv st0) := by
  intro T hT X
  obtain ⟨v, st₀, t, T', L1, h0, X', hL, e1, e2, ⟨⟨v', hp', hv, hK', hP'⟩, hz, hk⟩, stp⟩ := hr T hT X
  cases hv
  rw [h0] at hz hk
  have hS' : va_S (mx_A E) s.heap T'.heap (locs ++ L1) := ⟨Nat.le_trans S.1 (by rw [e1]; exact hz), fun q h1 h2 => by rw [e1, hk q (Nat.lt_of_lt_of_le h1 S.1) h2]; exact S.2.1 q h1 h2, fun q hq => by
    rcases List.mem_append.mp hq with h | h
    · exact S.2.2 q h
    · exact hL q h⟩
  have hg := kk v' hp' hK' p e s m args below meth c T'.heap (locs ++ L1) lv C0 (by rw [e1]; exact hP') hS' L
  rw [show (v'.toList ++ rest).map (mx_v E.1) = (v'.map (mx_v E.1)).toList ++ rest.map (mx_v E.1) by cases v' <;> simp] at hg
  obtain ⟨t2, a1, b1⟩ := hg T' rfl X'
  exact ⟨t2, stp t2 a1, b1⟩
theorem mx_pre {p : Program} {m : MethodId} {args : Array Value} {meth : Method} {c : Code} {s : State} {H : Heap} {locs : List Loc} {av : List Value} (C0 : mx_C E M p s m args meth c) (P : mx_P E hp H) (S : va_S (mx_A E) s.heap H locs) : PreS s H (va_Pc (av.map (mx_v E.1)) (fun U => mx_P E hp U.heap ∧ mx_K E U ∧ mx_X E U U.heap)) (av.map (mx_v E.1)) :=
  ⟨fun a U g mk q => ⟨q.1, q.2.1, va_K.moved (u := U) (U := U.calling g mk a) (Vm.Alike.refl U.vm) q.2.2.1, mx_X.same (U := U) (V := U.calling g mk a) rfl q.2.2.2⟩, fun U hU hW => ⟨rfl, by rw [hU]; exact P, va_K.moved hW.alike C0.kn, by
    rw [hU]
    exact mx_X.warm hW (S.2.1 _ (Nat.lt_of_lt_of_le C0.1.2.1 C0.2.2.2.2.2.2.2.2.2.2.1) (Nat.not_le.mpr C0.1.2.1)) S.2.1 C0.X⟩⟩
theorem mx_sum {rest : List Value} (h : (rest.map fun v => v.category).sum ≤ 8) : ((rest.map (mx_v E.1)).map fun v => v.category).sum ≤ 8 := by
  rw [List.map_map]
  rw [show ((fun v : Value => v.category) ∘ mx_v E.1) = fun v => v.category from funext fun v => mx_v_cat E.1 v]
  exact h
theorem mx_invV {index i ci N n : Nat} {C : String} {T : u_T} {fs : List Value} {M' : mx_Me} {rm : Room} {K' : Option Value → List va_E → Prop} {As rest : List Value} (hd : decode M.2.1 pc = .ok (.invokevirtual index, 3)) (hi : hp[i]? = some (.inr (ci, fs))) (hc : vwCl[ci]? = some (C, T, N)) (hme : mx_me M' n) (hn : As.length = n) (hw : Cond.methodLink M.1.cls index M'.1 ∈ mx_tb ∧ Cond.instanceMethod M'.1 ∈ mx_tb ∧ Cond.selects C M'.1 M'.1 ∈ mx_tb) (hM : mx_M l E M' rm (.ref i :: As) hp K') (hR : rm.frames + 1 ≤ R.frames ∧ 8 + (M'.2.2.1 + 11) + rm.locals ≤ R.locals) (hs : (rest.map fun v => v.category).sum ≤ 8) (hf : cells + rm.cells ≤ R.cells ∧ slots + rm.slots ≤ R.slots)
    (kk : ∀ (v : Option Value) (hp' : List va_E), K' v hp' → mx_W l E M R mc ms K (cells + rm.cells) (slots + rm.slots) (pc + 3) ls (v.toList ++ rest) hp') : mx_W l E M R mc ms K cells slots pc ls (As.reverse ++ .ref i :: rest) hp :=
  fun p e s m args below meth c H locs lv C0 P S L => by
    have cb := callB_of (R := R) (rm := rm) (mc := rm.cells) (ms := rm.slots) n C0.ts (mx_goodIn hme.1) rfl rfl rfl (C0.ts _ hme.2.1) (C0.ts _ hw.1) hme.2.2.2 hR
    have hpre := mx_pre (av := .ref i :: As) C0 P S
    exact mx_behind (va_runV (As := As.map (mx_v E.1)) (rest := rest.map (mx_v E.1)) (b := E.1 i) ⟨C0.2.1, C0.2.2.1, C0.2.2.2.1, C0.own, C0.ts⟩ hM ⟨cb, C0.ts _ hw.2.1, C0.ts _ hw.2.2⟩ ⟨hpre.1, va_recv (ci := ci) (q0 := i) C0.kn P.1 hc (mx_w_at hi), hpre.2⟩ rfl (by rw [List.length_map]; exact hn) L.1 (by simp [mx_v]) (lv_room (mx_sum hs)) hd hf) C0 S L kk
theorem mx_invI {index i n : Nat} {M' : mx_Me} {rm : Room} {K' : Option Value → List va_E → Prop} {As rest : List Value} (hd : decode M.2.1 pc = .ok (.invokespecial index, 3)) (hme : mx_me M' n) (hnm : M'.1.name = "<init>") (hret : M'.2.2.2 = none) (hn : As.length = n) (hw : Cond.methodLink M.1.cls index M'.1 ∈ mx_tb ∧ Cond.instanceMethod M'.1 ∈ mx_tb) (hM : mx_M l E M' rm (.ref i :: As) hp K') (hR : rm.frames + 1 ≤ R.frames ∧ 8 + (M'.2.2.1 + 11) + rm.locals ≤ R.locals) (hs : (rest.map fun v => v.category).sum ≤ 8) (hf : cells + rm.cells ≤ R.cells ∧ slots + rm.slots ≤ R.slots)
    (kk : ∀ (v : Option Value) (hp' : List va_E), K' v hp' → mx_W l E M R mc ms K (cells + rm.cells) (slots + rm.slots) (pc + 3) ls (v.toList ++ rest) hp') : mx_W l E M R mc ms K cells slots pc ls (As.reverse ++ .ref i :: rest) hp :=
  fun p e s m args below meth c H locs lv C0 P S L => by
    obtain ⟨y', b', l', r'⟩ := M'
    subst hret
    have cb := callB_of (R := R) (rm := rm) (mc := rm.cells) (ms := rm.slots) n C0.ts (mx_goodIn hme.1) rfl rfl rfl (C0.ts _ hme.2.1) (C0.ts _ hw.1) hme.2.2.2 hR
    exact mx_behind (va_runI (As := As.map (mx_v E.1)) (rest := rest.map (mx_v E.1)) (b := E.1 i) ⟨C0.2.1, C0.2.2.1, C0.2.2.2.1, C0.own, C0.ts⟩ hM ⟨cb, hnm, C0.ts _ hw.2⟩ (mx_pre (av := .ref i :: As) C0 P S) rfl (by rw [List.length_map]; exact hn) L.1 (by simp [mx_v]) (lv_room (mx_sum hs)) hd hf) C0 S L kk
theorem mx_invS {index n : Nat} {M' : mx_Me} {rm : Room} {K' : Option Value → List va_E → Prop} {As rest : List Value} (hd : decode M.2.1 pc = .ok (.invokestatic index, 3)) (hme : mx_me M' n) (hn : As.length = n) (hw : Cond.methodLink M.1.cls index M'.1 ∈ mx_tb ∧ Cond.static M'.1 ∈ mx_tb) (hM : mx_M l E M' rm As hp K') (hR : rm.frames + 1 ≤ R.frames ∧ 8 + (M'.2.2.1 + 11) + rm.locals ≤ R.locals) (hs : (rest.map fun v => v.category).sum ≤ 8) (hf : cells + rm.cells ≤ R.cells ∧ slots + rm.slots ≤ R.slots)
    (kk : ∀ (v : Option Value) (hp' : List va_E), K' v hp' → mx_W l E M R mc ms K (cells + rm.cells) (slots + rm.slots) (pc + 3) ls (v.toList ++ rest) hp') : mx_W l E M R mc ms K cells slots pc ls (As.reverse ++ rest) hp :=
  fun p e s m args below meth c H locs lv C0 P S L => by
    have cb := callB_of (R := R) (rm := rm) (mc := rm.cells) (ms := rm.slots) n C0.ts (mx_goodIn hme.1) rfl rfl rfl (C0.ts _ hme.2.1) (C0.ts _ hw.1) hme.2.2.2 hR
    exact mx_behind (va_runS (As := As.map (mx_v E.1)) (rest := rest.map (mx_v E.1)) ⟨C0.2.1, C0.2.2.1, C0.2.2.2.1, C0.own, C0.ts⟩ hM ⟨cb, C0.ts _ hw.2⟩ (mx_pre (av := As) C0 P S) rfl (by rw [List.length_map]; exact hn) L.1 (by simp) (lv_room (mx_sum hs)) hd hf) C0 S L kk
/-- a call on a String constant -/
theorem mx_invVS {index j n : Nat} {M' : mx_Me} {rm : Room} {K' : Option Value → List va_E → Prop} {As rest : List Value} (hj : j < 6) (hd : decode M.2.1 pc = .ok (.invokevirtual index, 3)) (hme : mx_me M' n) (hn : As.length = n) (hw : Cond.methodLink M.1.cls index M'.1 ∈ mx_tb ∧ Cond.instanceMethod M'.1 ∈ mx_tb ∧ Cond.selects "java/lang/String" M'.1 M'.1 ∈ mx_tb) (hM : mx_M l E M' rm (.ref (1000001 + 2 * j) :: As) hp K') (hR : rm.frames + 1 ≤ R.frames ∧ 8 + (M'.2.2.1 + 11) + rm.locals ≤ R.locals) (hs : (rest.map fun v => v.category).sum ≤ 8) (hf : cells + rm.cells ≤ R.cells ∧ slots + rm.slots ≤ R.slots)
    (kk : ∀ (v : Option Value) (hp' : List va_E), K' v hp' → mx_W l E M R mc ms K (cells + rm.cells) (slots + rm.slots) (pc + 3) ls (v.toList ++ rest) hp') : mx_W l E M R mc ms K cells slots pc ls (As.reverse ++ .ref (1000001 + 2 * j) :: rest) hp :=
  fun p e s m args below meth c H locs lv C0 P S L => by
    have cb := callB_of (R := R) (rm := rm) (mc := rm.cells) (ms := rm.slots) n C0.ts (mx_goodIn hme.1) rfl rfl rfl (C0.ts _ hme.2.1) (C0.ts _ hw.1) hme.2.2.2 hR
    have hpre := mx_pre (av := .ref (1000001 + 2 * j) :: As) C0 P S
    exact mx_behind (va_runV (As := As.map (mx_v E.1)) (rest := rest.map (mx_v E.1)) (b := E.1 (1000001 + 2 * j)) ⟨C0.2.1, C0.2.2.1, C0.2.2.2.1, C0.own, C0.ts⟩ hM ⟨cb, C0.ts _ hw.2.1, C0.ts _ hw.2.2⟩ ⟨hpre.1, vk_recv (adK := fun i => E.1 (1000001 + 2 * i)) (i := j) C0.X.2.1 hj S, hpre.2⟩ rfl (by rw [List.length_map]; exact hn) L.1 (by simp [mx_v]) (lv_room (mx_sum hs)) hd hf) C0 S L kk
/-- a call between nest mates -/
theorem mx_invVN {index i ci N n : Nat} {C : String} {T : u_T} {fs : List Value} {M' : mx_Me} {rm : Room} {K' : Option Value → List va_E → Prop} {As rest : List Value} {q : String × Nat × MethodName × String} (hd : decode M.2.1 pc = .ok (.invokevirtual index, 3)) (hi : hp[i]? = some (.inr (ci, fs))) (hc : vwCl[ci]? = some (C, T, N)) (hme : mx_me M' n) (hn : As.length = n) (hq : q ∈ mx_nest) (h1 : q.1 = M.1.cls) (h2 : q.2.1 = index) (h3 : q.2.2.1 = M'.1) (hw : Cond.instanceMethod M'.1 ∈ mx_tb ∧ Cond.selects C M'.1 M'.1 ∈ mx_tb) (hM : mx_M l E M' rm (.ref i :: As) hp K') (hR : rm.frames + 1 ≤ R.frames ∧ 8 + (M'.2.2.1 + 11) + rm.locals ≤ R.locals) (hs : (rest.map fun v => v.category).sum ≤ 8) (hf : cells + rm.cells ≤ R.cells ∧ slots + rm.slots ≤ R.slots)
    (kk : ∀ (v : Option Value) (hp' : List va_E), K' v hp' → mx_W l E M R mc ms K (cells + rm.cells) (slots + rm.slots) (pc + 3) ls (v.toList ++ rest) hp') : mx_W l E M R mc ms K cells slots pc ls (As.reverse ++ .ref i :: rest) hp :=
  fun p e s m args below meth c H locs lv C0 P S L => by
    have hz := C0.X.2.2.2.2.2 q hq
    rw [h1, h2, h3] at hz
    have cb := va_cnB (R := R) (rm := rm) (mc := rm.cells) (ms := rm.slots) n C0.ts (mx_goodIn hme.1) rfl rfl rfl hz (C0.ts _ hme.2.1) hme.2.2.2 hR
    have hpre := mx_pre (av := .ref i :: As) C0 P S
    exact mx_behind (va_runVN (As := As.map (mx_v E.1)) (rest := rest.map (mx_v E.1)) (b := E.1 i) ⟨C0.2.1, C0.2.2.1, C0.2.2.2.1, C0.own, C0.ts⟩ hM ⟨cb, C0.ts _ hw.1, C0.ts _ hw.2⟩ ⟨hpre.1, va_recv (ci := ci) (q0 := i) C0.kn P.1 hc (mx_w_at hi), hpre.2⟩ rfl (by rw [List.length_map]; exact hn) L.1 (by simp [mx_v]) (lv_room (mx_sum hs)) hd hf) C0 S L kk
theorem mx_objInit {index i : Nat} {rest : List Value} (hd : decode M.2.1 pc = .ok (.invokespecial index, 3)) (hw : Cond.methodLink M.1.cls index objectInit ∈ mx_tb) (hw2 : Cond.instanceMethod objectInit ∈ mx_tb) (hw3 : Cond.code objectInit ⟨#[0xb1]⟩ 1 none ∈ mx_tb) (hR : 1 ≤ R.frames ∧ 20 ≤ R.locals) (hs : (rest.map fun v => v.category).sum ≤ 8) (kk : mx_W l E M R mc ms K cells slots (pc + 3) ls rest hp) : mx_W l E M R mc ms K cells slots pc ls (.ref i :: rest) hp :=
  fun p e s m args below meth c H locs lv C0 P S L => by
    refine W.objInit (own := M.1.cls) C0.2.1 C0.2.2.1 C0.own (C0.ts _ hw) (C0.ts _ hw2) (C0.ts _ hw3) rfl (L.1.trans C0.2.2.2.1.symm) rfl hd hR.1 ?_ (kk p e s m args below meth c H locs lv C0 P S L)
    have := lv_room (m := m) (pc := pc) (ls := lv) (rest := List.map (mx_v E.1) (.ref i :: rest)) (mx_sum (E := E) hs)
    omega
end MXC
