/-! ===== THE EVALUATOR: what the pure machine does, as a function; and that the machine does it ===== -/
abbrev mx_In : Type := Instr × Nat × Nat × Nat × Nat
abbrev mx_Cf : Type := Nat × List (Nat × Value) × List Value × List va_E × Nat × Nat
def mx_lk : List (Nat × mx_In) → Nat → Option mx_In
  | [], _ => none
  | q :: l, i => cond (Nat.beq q.1 i) (some q.2) (mx_lk l i)
theorem mx_lk_mem : ∀ {l : List (Nat × mx_In)} {i : Nat} {v : mx_In}, mx_lk l i = some v → (i, v) ∈ l
  | [], _, _, h => by cases h
  | q :: l, i, v, h => by
    unfold mx_lk at h
    by_cases hq : Nat.beq q.1 i = true
    · rw [hq] at h
      have e1 : q.1 = i := Nat.eq_of_beq_eq_true hq
      have e2 : q.2 = v := Option.some.inj h
      rw [← e1, ← e2]
      exact List.mem_cons_self
    · rw [Bool.not_eq_true] at hq
      rw [hq] at h
      exact List.mem_cons_of_mem _ (mx_lk_mem h)
def mx_c (ci : Nat) : vw_C := vwCl.getD ci (RX0, TX0, 0)
def mx_ty (ci : Nat) : Nat → FieldType := ([tyX0, tyX1, tyX2, tyX3, tyX4, tyX5, tyX6, tyX7, tyX8, tyX9, tyX10, tyX11, tyX12] : List (Nat → FieldType)).getD ci tyX0
def mx_fit : FieldType → Value → Bool
  | .int, .int _ => true
  | .boolean, .int x => x == 0 || x == 1
  | .object _, .null => true
  | .object _, .ref _ => true
  | .array _, .null => true
  | .array _, .ref _ => true
  | _, _ => false
def mx_in (j : Int32) (n : Nat) : Bool := decide (¬ (j < 0 ∨ n ≤ j.toNatClampNeg))
def mx_fs (ci : Nat) : List Value := (List.range (mx_c ci).2.2).map (fun j => defaultValue (mx_ty ci j))
def mx_cs (l : List Value) : Nat := (l.map fun v => v.category).sum
def mx_a_li (pc i : Nat) (ls : List (Nat × Value)) (st : List Value) (hp : List va_E) : Option mx_Cf := match mx_at ls i with
  | some (.int x) => some (pc, ls, .int x :: st, hp, 0, 0)
  | _ => none
def mx_a_la (pc i : Nat) (ls : List (Nat × Value)) (st : List Value) (hp : List va_E) : Option mx_Cf := match mx_at ls i with
  | some (.ref x) => some (pc, ls, .ref x :: st, hp, 0, 0)
  | _ => none
def mx_a_si (pc i : Nat) (ls : List (Nat × Value)) (st : List Value) (hp : List va_E) : Option mx_Cf := match st with
  | .int x :: r => some (pc, mx_put ls i (.int x), r, hp, 0, 0)
  | _ => none
def mx_a_sa (pc i : Nat) (ls : List (Nat × Value)) (st : List Value) (hp : List va_E) : Option mx_Cf := match st with
  | .ref x :: r => some (pc, mx_put ls i (.ref x), r, hp, 0, 0)
  | _ => none
def mx_a_inc (pc i : Nat) (n : Int) (ls : List (Nat × Value)) (st : List Value) (hp : List va_E) : Option mx_Cf := match mx_at ls i with
  | some (.int x) => some (pc, mx_put ls i (.int (x + Int32.ofInt n)), st, hp, 0, 0)
  | _ => none
def mx_a_1 (f : Int32 → Int32) (pc : Nat) (ls : List (Nat × Value)) (st : List Value) (hp : List va_E) : Option mx_Cf := match st with
  | .int x :: r => some (pc, ls, .int (f x) :: r, hp, 0, 0)
  | _ => none
def mx_a_2 (f : Int32 → Int32 → Int32) (pc : Nat) (ls : List (Nat × Value)) (st : List Value) (hp : List va_E) : Option mx_Cf := match st with
  | .int y :: .int x :: r => some (pc, ls, .int (f x y) :: r, hp, 0, 0)
  | _ => none
def mx_a_2n (f : Int32 → Int32 → Int32) (pc : Nat) (ls : List (Nat × Value)) (st : List Value) (hp : List va_E) : Option mx_Cf := match st with
  | .int y :: .int x :: r => cond (decide (y = 0)) none (some (pc, ls, .int (f x y) :: r, hp, 0, 0))
  | _ => none
def mx_a_b1 (t : Int32 → Bool) (tgt pc : Nat) (ls : List (Nat × Value)) (st : List Value) (hp : List va_E) : Option mx_Cf := match st with
  | .int x :: r => some (cond (t x) tgt pc, ls, r, hp, 0, 0)
  | _ => none
def mx_a_b2 (t : Int32 → Int32 → Bool) (tgt pc : Nat) (ls : List (Nat × Value)) (st : List Value) (hp : List va_E) : Option mx_Cf := match st with
  | .int y :: .int x :: r => some (cond (t x y) tgt pc, ls, r, hp, 0, 0)
  | _ => none
def mx_a_get (ci k pc : Nat) (ls : List (Nat × Value)) (st : List Value) (hp : List va_E) : Option mx_Cf := match st with
  | .ref i :: r => match hp[i]? with
    | some (.inr (cj, fs)) => cond (Nat.beq cj ci) (match fs[k]? with
      | some v => some (pc, ls, v :: r, hp, 0, 0)
      | none => none) none
    | _ => none
  | _ => none
def mx_a_put (ci k pc : Nat) (ls : List (Nat × Value)) (st : List Value) (hp : List va_E) : Option mx_Cf := match st with
  | v :: .ref i :: r => match hp[i]? with
    | some (.inr (cj, fs)) => cond (Nat.beq cj ci && Nat.blt k fs.length && mx_fit (mx_ty ci k) v) (some (pc, ls, r, hp.set i (.inr (cj, fs.set k v)), 0, 0)) none
    | _ => none
  | _ => none
def mx_a_ald (sL : Nat) (sx : Nat → Int32) (pc : Nat) (ls : List (Nat × Value)) (st : List Value) (hp : List va_E) : Option mx_Cf := match st with
  | .int j :: .ref i :: r => cond (Nat.beq i 1000000) (cond (mx_in j sL) (some (pc, ls, .int (sx j.toNatClampNeg) :: r, hp, 0, 0)) none) (match hp[i]? with
    | some (.inl (0, n, .inl f)) => cond (mx_in j n) (some (pc, ls, .int (f j.toNatClampNeg) :: r, hp, 0, 0)) none
    | _ => none)
  | _ => none
def mx_a_zld (pc : Nat) (ls : List (Nat × Value)) (st : List Value) (hp : List va_E) : Option mx_Cf := match st with
  | .int j :: .ref i :: r => match hp[i]? with
    | some (.inl (1, n, .inl f)) => cond (mx_in j n) (some (pc, ls, .int (f j.toNatClampNeg) :: r, hp, 0, 0)) none
    | _ => none
  | _ => none
def mx_a_ast (pc : Nat) (ls : List (Nat × Value)) (st : List Value) (hp : List va_E) : Option mx_Cf := match st with
  | .int x :: .int j :: .ref i :: r => match hp[i]? with
    | some (.inl (0, n, .inl f)) => cond (mx_in j n) (some (pc, ls, r, hp.set i (.inl (0, n, .inl (upd f j.toNatClampNeg x))), 0, 0)) none
    | _ => none
  | _ => none
def mx_a_zst (pc : Nat) (ls : List (Nat × Value)) (st : List Value) (hp : List va_E) : Option mx_Cf := match st with
  | .int x :: .int j :: .ref i :: r => match hp[i]? with
    | some (.inl (1, n, .inl f)) => cond (mx_in j n) (some (pc, ls, r, hp.set i (.inl (1, n, .inl (upd f j.toNatClampNeg (vp_nar .boolean x)))), 0, 0)) none
    | _ => none
  | _ => none
def mx_a_len (sL : Nat) (sx : Nat → Int32) (pc : Nat) (ls : List (Nat × Value)) (st : List Value) (hp : List va_E) : Option mx_Cf := match st with
  | .ref i :: r => cond (Nat.beq i 1000000) (some (pc, ls, .int (Int32.ofNat sL) :: r, hp, 0, 0)) (match hp[i]? with
    | some (.inl (t, a)) => cond (Nat.blt t 3) (some (pc, ls, .int (Int32.ofNat a.1) :: r, hp, 0, 0)) none
    | _ => none)
  | _ => none
def mx_a_na (t pc : Nat) (ls : List (Nat × Value)) (st : List Value) (hp : List va_E) : Option mx_Cf := match st with
  | .int n :: r => cond (decide (¬ n < 0) && Nat.ble n.toNatClampNeg 1000000 && Nat.blt hp.length 600000) (some (pc, ls, .ref hp.length :: r, hp ++ [.inl (t, n.toNatClampNeg, .inl (fun _ => 0))], 1, n.toNatClampNeg)) none
  | _ => none
def mx_a_new (ci pc : Nat) (ls : List (Nat × Value)) (st : List Value) (hp : List va_E) : Option mx_Cf :=
  cond (Nat.blt hp.length 600000) (some (pc, ls, .ref hp.length :: st, hp ++ [.inr (ci, mx_fs ci)], 1, (mx_c ci).2.2)) none
def mx_a_dup (pc : Nat) (ls : List (Nat × Value)) (st : List Value) (hp : List va_E) : Option mx_Cf := match st with
  | a :: r => cond (Nat.beq a.category 1) (some (pc, ls, a :: a :: r, hp, 0, 0)) none
  | _ => none
def mx_a_pop (pc : Nat) (ls : List (Nat × Value)) (st : List Value) (hp : List va_E) : Option mx_Cf := match st with
  | a :: r => cond (Nat.beq a.category 1) (some (pc, ls, r, hp, 0, 0)) none
  | _ => none
def mx_a_dx1 (pc : Nat) (ls : List (Nat × Value)) (st : List Value) (hp : List va_E) : Option mx_Cf := match st with
  | a :: b :: r => cond (Nat.beq a.category 1 && Nat.beq b.category 1) (some (pc, ls, a :: b :: a :: r, hp, 0, 0)) none
  | _ => none
def mx_a_dx2 (pc : Nat) (ls : List (Nat × Value)) (st : List Value) (hp : List va_E) : Option mx_Cf := match st with
  | a :: b :: d :: r => cond (Nat.beq a.category 1 && Nat.beq b.category 1 && Nat.beq d.category 1) (some (pc, ls, a :: b :: d :: a :: r, hp, 0, 0)) none
  | _ => none
def mx_a_d2 (pc : Nat) (ls : List (Nat × Value)) (st : List Value) (hp : List va_E) : Option mx_Cf := match st with
  | a :: b :: r => cond (Nat.beq a.category 1 && Nat.beq b.category 1) (some (pc, ls, a :: b :: a :: b :: r, hp, 0, 0)) none
  | _ => none
def mx_a_ts (pc : Nat) (dflt lo hi : Int) (offs : Array Int) (ls : List (Nat × Value)) (st : List Value) (hp : List va_E) : Option mx_Cf := match st with
  | .int x :: r => cond (decide (x.toInt < lo ∨ hi < x.toInt)) (cond (decide (0 ≤ (pc : Int) + dflt)) (some (((pc : Int) + dflt).toNat, ls, r, hp, 0, 0)) none) (match offs[(x.toInt - lo).toNat]? with
    | some off => cond (decide (0 ≤ (pc : Int) + off)) (some (((pc : Int) + off).toNat, ls, r, hp, 0, 0)) none
    | none => none)
  | _ => none
/-- the places of String constants, and of their bytes -/
def mx_isS (i : Nat) : Bool := Nat.ble 1000001 i && Nat.blt ((i - 1000001) / 2) 6 && Nat.beq ((i - 1000001) % 2) 0
def mx_isB (i : Nat) : Bool := Nat.ble 1000002 i && Nat.blt ((i - 1000002) / 2) 6 && Nat.beq ((i - 1000002) % 2) 0
theorem mx_isS_ok {i : Nat} (h : mx_isS i = true) : ∃ j, j < 6 ∧ i = 1000001 + 2 * j := by
  unfold mx_isS at h
  simp only [Bool.and_eq_true] at h
  obtain ⟨⟨h1, h2⟩, h3⟩ := h
  have a1 := Nat.ble_eq.mp h1
  have a2 : (i - 1000001) / 2 + 1 ≤ 6 := Nat.ble_eq.mp h2
  have a3 := Nat.eq_of_beq_eq_true h3
  exact ⟨(i - 1000001) / 2, by omega, by omega⟩
theorem mx_isB_ok {i : Nat} (h : mx_isB i = true) : ∃ j, j < 6 ∧ i = 1000002 + 2 * j := by
  unfold mx_isB at h
  simp only [Bool.and_eq_true] at h
  obtain ⟨⟨h1, h2⟩, h3⟩ := h
  have a1 := Nat.ble_eq.mp h1
  have a2 : (i - 1000002) / 2 + 1 ≤ 6 := Nat.ble_eq.mp h2
  have a3 := Nat.eq_of_beq_eq_true h3
  exact ⟨(i - 1000002) / 2, by omega, by omega⟩
def mx_a_sget (b pc : Nat) (ls : List (Nat × Value)) (st : List Value) (hp : List va_E) : Option mx_Cf := match st with
  | .ref i :: r => cond (mx_isS i) (cond (Nat.beq b 0) (some (pc, ls, .ref (i + 1) :: r, hp, 0, 0)) (some (pc, ls, .int 0 :: r, hp, 0, 0))) none
  | _ => none
def mx_a_zl2 (pc : Nat) (ls : List (Nat × Value)) (st : List Value) (hp : List va_E) : Option mx_Cf := match st with
  | .int j :: .ref i :: r => cond (mx_isB i) (cond (mx_in j (mx_sln.getD ((i - 1000002) / 2) 0)) (some (pc, ls, .int ((mx_sby.getD ((i - 1000002) / 2) []).getD j.toNatClampNeg 0) :: r, hp, 0, 0)) none) (mx_a_zld pc ls (.int j :: .ref i :: r) hp)
  | _ => none
def mx_a_len2 (sL : Nat) (sx : Nat → Int32) (pc : Nat) (ls : List (Nat × Value)) (st : List Value) (hp : List va_E) : Option mx_Cf := match st with
  | .ref i :: r => cond (mx_isB i) (some (pc, ls, .int (Int32.ofNat (mx_sln.getD ((i - 1000002) / 2) 0)) :: r, hp, 0, 0)) (mx_a_len sL sx pc ls (.ref i :: r) hp)
  | _ => none
def mx_G (l : Launch) (E : mx_Ev) (M : mx_Me) (R : Room) (mc ms : Nat) (K : Option Value → List va_E → Prop) (cells slots : Nat) (q : mx_Cf) : Prop := mx_W l E M R mc ms K (cells + q.2.2.2.2.1) (slots + q.2.2.2.2.2) q.1 q.2.1 q.2.2.1 q.2.2.2.1
theorem mx_in_ok {j : Int32} {n : Nat} (h : mx_in j n = true) : vp_in j n := of_decide_eq_true (p := ¬ (j < 0 ∨ n ≤ j.toNatClampNeg)) h
theorem mx_fit_ok {ty : FieldType} {v : Value} (r : Nat → Nat) (h : mx_fit ty v = true) : narrow ty (mx_v r v) = mx_v r v ∧ fits ty (mx_v r v) = true := by
  unfold mx_fit at h
  split at h
  · exact ⟨rfl, rfl⟩
  · rename_i x
    have hx : x = 0 ∨ x = 1 := by simpa using h
    rcases hx with rfl | rfl <;> exact ⟨rfl, rfl⟩
  · exact ⟨rfl, rfl⟩
  · exact ⟨rfl, rfl⟩
  · exact ⟨rfl, rfl⟩
  · exact ⟨rfl, rfl⟩
  · cases h
theorem mx_fs_ok (ci : Nat) (r : Nat → Nat) : ∀ j, j < (mx_c ci).2.2 → defaultValue (mx_ty ci j) = vp_V ((mx_fs ci).map (mx_v r)) j := by
  intro j hj
  unfold vp_V mx_fs
  rw [List.getD_eq_getElem?_getD, List.getElem?_map, List.getElem?_map, List.getElem?_range hj]
  show _ = mx_v r (defaultValue (mx_ty ci j))
  cases mx_ty ci j <;> rfl
section MXR
variable {l : Launch} {E : mx_Ev} {M : mx_Me} {R : Room} {mc ms : Nat} {K : Option Value → List va_E → Prop} {cells slots pc : Nat} {ls : List (Nat × Value)} {st : List Value} {hp : List va_E} {q1 : mx_Cf}
theorem mx_l_li {pc1 i : Nat} (rule : ∀ x : Int32, mx_at ls i = some (.int x) → mx_W l E M R mc ms K cells slots pc1 ls (.int x :: st) hp → mx_W l E M R mc ms K cells slots pc ls st hp) (h : mx_a_li pc1 i ls st hp = some q1) (k : mx_G l E M R mc ms K cells slots q1) : mx_W l E M R mc ms K cells slots pc ls st hp := by
  unfold mx_a_li at h
  split at h
  · rename_i x hx
    cases h
    exact rule x hx k
  · cases h
theorem mx_l_la {pc1 i : Nat} (rule : ∀ x : Nat, mx_at ls i = some (.ref x) → mx_W l E M R mc ms K cells slots pc1 ls (.ref x :: st) hp → mx_W l E M R mc ms K cells slots pc ls st hp) (h : mx_a_la pc1 i ls st hp = some q1) (k : mx_G l E M R mc ms K cells slots q1) : mx_W l E M R mc ms K cells slots pc ls st hp := by
  unfold mx_a_la at h
  split at h
  · rename_i x hx
    cases h
    exact rule x hx k
  · cases h
theorem mx_l_si {pc1 i : Nat} (rule : ∀ (x : Int32) (r : List Value), mx_W l E M R mc ms K cells slots pc1 (mx_put ls i (.int x)) r hp → mx_W l E M R mc ms K cells slots pc ls (.int x :: r) hp) (h : mx_a_si pc1 i ls st hp = some q1) (k : mx_G l E M R mc ms K cells slots q1) : mx_W l E M R mc ms K cells slots pc ls st hp := by
  unfold mx_a_si at h
  split at h
  · cases h
    exact rule _ _ k
  · cases h
theorem mx_l_sa {pc1 i : Nat} (rule : ∀ (x : Nat) (r : List Value), mx_W l E M R mc ms K cells slots pc1 (mx_put ls i (.ref x)) r hp → mx_W l E M R mc ms K cells slots pc ls (.ref x :: r) hp) (h : mx_a_sa pc1 i ls st hp = some q1) (k : mx_G l E M R mc ms K cells slots q1) : mx_W l E M R mc ms K cells slots pc ls st hp := by
  unfold mx_a_sa at h
  split at h
  · cases h
    exact rule _ _ k
  · cases h
theorem mx_l_inc {i : Nat} {n : Int} (hd : decode M.2.1 pc = .ok (.iinc i n, 3)) (hn : i < M.2.2.1) (h : mx_a_inc (pc + 3) i n ls st hp = some q1) (k : mx_G l E M R mc ms K cells slots q1) : mx_W l E M R mc ms K cells slots pc ls st hp := by
  unfold mx_a_inc at h
  split at h
  · rename_i x hx
    cases h
    exact mx_iinc hd hx rfl hn k
  · cases h
theorem mx_l_1 {pc1 : Nat} {f : Int32 → Int32} (rule : ∀ (x : Int32) (r : List Value), mx_W l E M R mc ms K cells slots pc1 ls (.int (f x) :: r) hp → mx_W l E M R mc ms K cells slots pc ls (.int x :: r) hp) (h : mx_a_1 f pc1 ls st hp = some q1) (k : mx_G l E M R mc ms K cells slots q1) : mx_W l E M R mc ms K cells slots pc ls st hp := by
  unfold mx_a_1 at h
  split at h
  · cases h
    exact rule _ _ k
  · cases h
theorem mx_l_2 {pc1 : Nat} {f : Int32 → Int32 → Int32} (rule : ∀ (x y : Int32) (r : List Value), mx_W l E M R mc ms K cells slots pc1 ls (.int (f x y) :: r) hp → mx_W l E M R mc ms K cells slots pc ls (.int y :: .int x :: r) hp) (h : mx_a_2 f pc1 ls st hp = some q1) (k : mx_G l E M R mc ms K cells slots q1) : mx_W l E M R mc ms K cells slots pc ls st hp := by
  unfold mx_a_2 at h
  split at h
  · cases h
    exact rule _ _ _ k
  · cases h
theorem mx_l_2n {pc1 : Nat} {f : Int32 → Int32 → Int32} (rule : ∀ (x y : Int32) (r : List Value), ¬ y = 0 → mx_W l E M R mc ms K cells slots pc1 ls (.int (f x y) :: r) hp → mx_W l E M R mc ms K cells slots pc ls (.int y :: .int x :: r) hp) (h : mx_a_2n f pc1 ls st hp = some q1) (k : mx_G l E M R mc ms K cells slots q1) : mx_W l E M R mc ms K cells slots pc ls st hp := by
  unfold mx_a_2n at h
  split at h
  · rename_i y x r
    by_cases hy : y = 0
    · rw [decide_eq_true hy] at h; cases h
    · rw [decide_eq_false hy] at h
      cases h
      exact rule _ _ _ hy k
  · cases h
theorem mx_l_b1 {t : Int32 → Bool} {tgt pc1 : Nat} (rule : ∀ (x : Int32) (r : List Value), (t x = true → mx_W l E M R mc ms K cells slots tgt ls r hp) → (t x = false → mx_W l E M R mc ms K cells slots pc1 ls r hp) → mx_W l E M R mc ms K cells slots pc ls (.int x :: r) hp) (h : mx_a_b1 t tgt pc1 ls st hp = some q1) (k : mx_G l E M R mc ms K cells slots q1) : mx_W l E M R mc ms K cells slots pc ls st hp := by
  unfold mx_a_b1 at h
  split at h
  · cases h
    exact rule _ _ (fun ht => by rw [mx_G, ht] at k; exact k) (fun ht => by rw [mx_G, ht] at k; exact k)
  · cases h
theorem mx_l_b2 {t : Int32 → Int32 → Bool} {tgt pc1 : Nat} (rule : ∀ (x y : Int32) (r : List Value), (t x y = true → mx_W l E M R mc ms K cells slots tgt ls r hp) → (t x y = false → mx_W l E M R mc ms K cells slots pc1 ls r hp) → mx_W l E M R mc ms K cells slots pc ls (.int y :: .int x :: r) hp) (h : mx_a_b2 t tgt pc1 ls st hp = some q1) (k : mx_G l E M R mc ms K cells slots q1) : mx_W l E M R mc ms K cells slots pc ls st hp := by
  unfold mx_a_b2 at h
  split at h
  · cases h
    exact rule _ _ _ (fun ht => by rw [mx_G, ht] at k; exact k) (fun ht => by rw [mx_G, ht] at k; exact k)
  · cases h
theorem mx_l_get {ci k0 index : Nat} {C : String} {T : u_T} {N : Nat} {ty : Nat → FieldType} (hd : decode M.2.1 pc = .ok (.getfield index, 3)) (hc : mx_cl ci C T N ty) (hw : Cond.fieldLink M.1.cls index (T k0).1 (T k0).2.1 (T k0).2.2.1 ∈ mx_tb) (hk : k0 < N) (h : mx_a_get ci k0 (pc + 3) ls st hp = some q1) (k : mx_G l E M R mc ms K cells slots q1) : mx_W l E M R mc ms K cells slots pc ls st hp := by
  unfold mx_a_get at h
  split at h
  · rename_i i r
    split at h
    · rename_i cj fs hi
      by_cases hq : Nat.beq cj ci = true
      · rw [hq] at h
        have e1 : cj = ci := Nat.eq_of_beq_eq_true hq
        subst e1
        dsimp only [cond] at h
        split at h
        · rename_i v hv
          cases h
          exact mx_getfield hd hc hw hk hi hv k
        · cases h
      · rw [Bool.not_eq_true] at hq
        rw [hq] at h; cases h
    · cases h
  · cases h
theorem mx_l_put {ci k0 index : Nat} {C : String} {T : u_T} {N : Nat} (hd : decode M.2.1 pc = .ok (.putfield index, 3)) (hc : mx_cl ci C T N (mx_ty ci)) (hw : Cond.fieldLink M.1.cls index (T k0).1 (T k0).2.1 (T k0).2.2.1 ∈ mx_tb) (hk : k0 < N) (hf : (T k0).2.2.2 = false ∨ ((T k0).2.2.2 = true ∧ M.1.name = "<init>" ∧ (T k0).1 = M.1.cls)) (h : mx_a_put ci k0 (pc + 3) ls st hp = some q1) (k : mx_G l E M R mc ms K cells slots q1) : mx_W l E M R mc ms K cells slots pc ls st hp := by
  unfold mx_a_put at h
  split at h
  · rename_i v i r
    split at h
    · rename_i cj fs hi
      by_cases hq : (Nat.beq cj ci && Nat.blt k0 fs.length && mx_fit (mx_ty ci k0) v) = true
      · rw [hq] at h
        rw [Bool.and_eq_true, Bool.and_eq_true] at hq
        have e1 : cj = ci := Nat.eq_of_beq_eq_true hq.1.1
        subst e1
        cases h
        have hfit := mx_fit_ok E.1 hq.2
        exact mx_putfield hd hc hw hk hf hi (Nat.ble_eq.mp hq.1.2) hfit.1 hfit.2 k
      · rw [Bool.not_eq_true] at hq
        rw [hq] at h; cases h
    · cases h
  · cases h
theorem mx_l_ald (hd : decode M.2.1 pc = .ok (.iaload, 1)) (h : mx_a_ald E.2.2.2.2.2.2.1 E.2.2.2.2.2.2.2 (pc + 1) ls st hp = some q1) (k : mx_G l E M R mc ms K cells slots q1) : mx_W l E M R mc ms K cells slots pc ls st hp := by
  unfold mx_a_ald at h
  split at h
  · rename_i j i r
    by_cases hq : Nat.beq i 1000000 = true
    · rw [hq] at h
      have e1 : i = 1000000 := Nat.eq_of_beq_eq_true hq
      subst e1
      dsimp only [cond] at h
      cases hj : mx_in j E.2.2.2.2.2.2.1 with
      | false => rw [hj] at h; cases h
      | true =>
        rw [hj] at h
        cases h
        exact mx_sld hd (mx_in_ok hj) k
    · rw [Bool.not_eq_true] at hq
      rw [hq] at h
      dsimp only [cond] at h
      split at h
      · rename_i n f hi
        cases hj : mx_in j n with
        | false => rw [hj] at h; cases h
        | true =>
          rw [hj] at h
          cases h
          exact mx_iaload hd hi (mx_in_ok hj) k
      · cases h
  · cases h
theorem mx_l_zld (hd : decode M.2.1 pc = .ok (.baload, 1)) (h : mx_a_zld (pc + 1) ls st hp = some q1) (k : mx_G l E M R mc ms K cells slots q1) : mx_W l E M R mc ms K cells slots pc ls st hp := by
  unfold mx_a_zld at h
  split at h
  · rename_i j i r
    split at h
    · rename_i n f hi
      cases hj : mx_in j n with
      | false => rw [hj] at h; cases h
      | true =>
        rw [hj] at h
        cases h
        exact mx_zaload hd hi (mx_in_ok hj) k
    · cases h
  · cases h
theorem mx_l_ast (hd : decode M.2.1 pc = .ok (.iastore, 1)) (h : mx_a_ast (pc + 1) ls st hp = some q1) (k : mx_G l E M R mc ms K cells slots q1) : mx_W l E M R mc ms K cells slots pc ls st hp := by
  unfold mx_a_ast at h
  split at h
  · rename_i x j i r
    split at h
    · rename_i n f hi
      cases hj : mx_in j n with
      | false => rw [hj] at h; cases h
      | true =>
        rw [hj] at h
        cases h
        exact mx_iastore hd hi (mx_in_ok hj) k
    · cases h
  · cases h
theorem mx_l_zst (hd : decode M.2.1 pc = .ok (.bastore, 1)) (h : mx_a_zst (pc + 1) ls st hp = some q1) (k : mx_G l E M R mc ms K cells slots q1) : mx_W l E M R mc ms K cells slots pc ls st hp := by
  unfold mx_a_zst at h
  split at h
  · rename_i x j i r
    split at h
    · rename_i n f hi
      cases hj : mx_in j n with
      | false => rw [hj] at h; cases h
      | true =>
        rw [hj] at h
        cases h
        exact mx_zastore hd hi (mx_in_ok hj) k
    · cases h
  · cases h
theorem mx_l_len (hd : decode M.2.1 pc = .ok (.arraylength, 1)) (h : mx_a_len E.2.2.2.2.2.2.1 E.2.2.2.2.2.2.2 (pc + 1) ls st hp = some q1) (k : mx_G l E M R mc ms K cells slots q1) : mx_W l E M R mc ms K cells slots pc ls st hp := by
  unfold mx_a_len at h
  split at h
  · rename_i i r
    by_cases hq : Nat.beq i 1000000 = true
    · rw [hq] at h
      have e1 : i = 1000000 := Nat.eq_of_beq_eq_true hq
      subst e1
      cases h
      exact mx_slen hd k
    · rw [Bool.not_eq_true] at hq
      rw [hq] at h
      dsimp only [cond] at h
      split at h
      · rename_i t a hi
        by_cases hj : Nat.blt t 3 = true
        · rw [hj] at h
          cases h
          exact mx_alen (n := 0) hd hi (Nat.ble_eq.mp hj) k
        · rw [Bool.not_eq_true] at hj
          rw [hj] at h; cases h
      · cases h
  · cases h
theorem mx_l_na {t : Nat} (rule : ∀ (n : Int32) (r : List Value), ¬ n < 0 → n.toNatClampNeg ≤ 1000000 → cells + 1 ≤ R.cells → slots + n.toNatClampNeg ≤ R.slots → hp.length < 600000 → mx_W l E M R mc ms K (cells + 1) (slots + n.toNatClampNeg) (pc + 2) ls (.ref hp.length :: r) (hp ++ [.inl (t, n.toNatClampNeg, .inl (fun _ => 0))]) → mx_W l E M R mc ms K cells slots pc ls (.int n :: r) hp) (h : mx_a_na t (pc + 2) ls st hp = some q1) (hC : cells + q1.2.2.2.2.1 ≤ R.cells) (hS : slots + q1.2.2.2.2.2 ≤ R.slots) (k : mx_G l E M R mc ms K cells slots q1) : mx_W l E M R mc ms K cells slots pc ls st hp := by
  unfold mx_a_na at h
  split at h
  · rename_i n r
    by_cases hq : (decide (¬ n < 0) && Nat.ble n.toNatClampNeg 1000000 && Nat.blt hp.length 600000) = true
    · rw [hq] at h
      rw [Bool.and_eq_true, Bool.and_eq_true] at hq
      cases h
      exact rule n r (of_decide_eq_true hq.1.1) (Nat.ble_eq.mp hq.1.2) hC hS (Nat.ble_eq.mp hq.2) k
    · rw [Bool.not_eq_true] at hq
      rw [hq] at h; cases h
  · cases h
theorem mx_l_new {ci index : Nat} (hd : decode M.2.1 pc = .ok (.new index, 3)) (hc : mx_cl ci (mx_c ci).1 (mx_c ci).2.1 (mx_c ci).2.2 (mx_ty ci)) (hw : Cond.classLink M.1.cls index (mx_c ci).1 ∈ mx_tb) (hw2 : Cond.instantiable (mx_c ci).1 (mx_c ci).2.2 ∈ mx_tb) (hw3 : Cond.initialized (mx_c ci).1 ∈ mx_tb) (h : mx_a_new ci (pc + 3) ls st hp = some q1) (hC : cells + q1.2.2.2.2.1 ≤ R.cells) (hS : slots + q1.2.2.2.2.2 ≤ R.slots) (k : mx_G l E M R mc ms K cells slots q1) : mx_W l E M R mc ms K cells slots pc ls st hp := by
  unfold mx_a_new at h
  by_cases hq : Nat.blt hp.length 600000 = true
  · rw [hq] at h
    cases h
    exact mx_new hd hc hw hw2 hw3 (mx_fs_ok ci E.1) hC hS (Nat.ble_eq.mp hq) k
  · rw [Bool.not_eq_true] at hq
    rw [hq] at h; cases h
theorem mx_l_dup (hd : decode M.2.1 pc = .ok (.dup, 1)) (h : mx_a_dup (pc + 1) ls st hp = some q1) (k : mx_G l E M R mc ms K cells slots q1) : mx_W l E M R mc ms K cells slots pc ls st hp := by
  unfold mx_a_dup at h
  split at h
  · rename_i a r
    by_cases hq : Nat.beq a.category 1 = true
    · rw [hq] at h
      cases h
      exact mx_dup hd (Nat.eq_of_beq_eq_true hq) k
    · rw [Bool.not_eq_true] at hq
      rw [hq] at h; cases h
  · cases h
theorem mx_l_pop (hd : decode M.2.1 pc = .ok (.pop, 1)) (h : mx_a_pop (pc + 1) ls st hp = some q1) (k : mx_G l E M R mc ms K cells slots q1) : mx_W l E M R mc ms K cells slots pc ls st hp := by
  unfold mx_a_pop at h
  split at h
  · rename_i a r
    by_cases hq : Nat.beq a.category 1 = true
    · rw [hq] at h
      cases h
      exact mx_pop hd (Nat.eq_of_beq_eq_true hq) k
    · rw [Bool.not_eq_true] at hq
      rw [hq] at h; cases h
  · cases h
theorem mx_l_dx1 (hd : decode M.2.1 pc = .ok (.dup_x1, 1)) (h : mx_a_dx1 (pc + 1) ls st hp = some q1) (k : mx_G l E M R mc ms K cells slots q1) : mx_W l E M R mc ms K cells slots pc ls st hp := by
  unfold mx_a_dx1 at h
  split at h
  · rename_i a b r
    by_cases hq : (Nat.beq a.category 1 && Nat.beq b.category 1) = true
    · rw [hq] at h
      rw [Bool.and_eq_true] at hq
      cases h
      exact mx_dup_x1 hd (Nat.eq_of_beq_eq_true hq.1) (Nat.eq_of_beq_eq_true hq.2) k
    · rw [Bool.not_eq_true] at hq
      rw [hq] at h; cases h
  · cases h
theorem mx_l_d2 (hd : decode M.2.1 pc = .ok (.dup2, 1)) (h : mx_a_d2 (pc + 1) ls st hp = some q1) (k : mx_G l E M R mc ms K cells slots q1) : mx_W l E M R mc ms K cells slots pc ls st hp := by
  unfold mx_a_d2 at h
  split at h
  · rename_i a b r
    by_cases hq : (Nat.beq a.category 1 && Nat.beq b.category 1) = true
    · rw [hq] at h
      rw [Bool.and_eq_true] at hq
      cases h
      exact mx_dup2 hd (Nat.eq_of_beq_eq_true hq.1) (Nat.eq_of_beq_eq_true hq.2) k
    · rw [Bool.not_eq_true] at hq
      rw [hq] at h; cases h
  · cases h
theorem mx_l_dx2 (hd : decode M.2.1 pc = .ok (.dup_x2, 1)) (h : mx_a_dx2 (pc + 1) ls st hp = some q1) (k : mx_G l E M R mc ms K cells slots q1) : mx_W l E M R mc ms K cells slots pc ls st hp := by
  unfold mx_a_dx2 at h
  split at h
  · rename_i a b d r
    by_cases hq : (Nat.beq a.category 1 && Nat.beq b.category 1 && Nat.beq d.category 1) = true
    · rw [hq] at h
      rw [Bool.and_eq_true, Bool.and_eq_true] at hq
      cases h
      exact mx_dup_x2 hd (Nat.eq_of_beq_eq_true hq.1.1) (Nat.eq_of_beq_eq_true hq.1.2) (Nat.eq_of_beq_eq_true hq.2) k
    · rw [Bool.not_eq_true] at hq
      rw [hq] at h; cases h
  · cases h
theorem mx_l_ts {dflt lo hi : Int} {offs : Array Int} {len : Nat} (hd : decode M.2.1 pc = .ok (.tableswitch dflt lo hi offs, len)) (h : mx_a_ts pc dflt lo hi offs ls st hp = some q1) (k : mx_G l E M R mc ms K cells slots q1) : mx_W l E M R mc ms K cells slots pc ls st hp := by
  unfold mx_a_ts at h
  split at h
  · rename_i x r
    by_cases hx : x.toInt < lo ∨ hi < x.toInt
    · rw [decide_eq_true hx] at h
      dsimp only [cond] at h
      by_cases h0 : 0 ≤ (pc : Int) + dflt
      · rw [decide_eq_true h0] at h
        cases h
        exact mx_tableOut hd hx (Int.toNat_of_nonneg h0).symm k
      · rw [decide_eq_false h0] at h; cases h
    · rw [decide_eq_false hx] at h
      dsimp only [cond] at h
      split at h
      · rename_i off ho
        by_cases h0 : 0 ≤ (pc : Int) + off
        · rw [decide_eq_true h0] at h
          cases h
          exact mx_tableIn hd (fun q => hx (Or.inl q)) (fun q => hx (Or.inr q)) ho (Int.toNat_of_nonneg h0).symm k
        · rw [decide_eq_false h0] at h; cases h
      · cases h
  · cases h
theorem mx_l_sget {b index : Nat} (hd : decode M.2.1 pc = .ok (.getfield index, 3)) (hw : cond (Nat.beq b 0) (Cond.fieldLink M.1.cls index "java/lang/String" "value" "[B") (Cond.fieldLink M.1.cls index "java/lang/String" "coder" "B") ∈ mx_tb) (h : mx_a_sget b (pc + 3) ls st hp = some q1) (k : mx_G l E M R mc ms K cells slots q1) : mx_W l E M R mc ms K cells slots pc ls st hp := by
  unfold mx_a_sget at h
  split at h
  · rename_i i r
    cases hq : mx_isS i with
    | false => rw [hq] at h; cases h
    | true =>
      rw [hq] at h
      obtain ⟨j, hj, rfl⟩ := mx_isS_ok hq
      cases hb : Nat.beq b 0 with
      | true =>
        rw [hb] at h hw
        cases h
        rw [show 1000001 + 2 * j + 1 = 1000002 + 2 * j by omega] at k
        exact mx_sgetv hj hd hw k
      | false =>
        rw [hb] at h hw
        cases h
        exact mx_sgetc hj hd hw k
  · cases h
theorem mx_l_zl2 (hd : decode M.2.1 pc = .ok (.baload, 1)) (h : mx_a_zl2 (pc + 1) ls st hp = some q1) (k : mx_G l E M R mc ms K cells slots q1) : mx_W l E M R mc ms K cells slots pc ls st hp := by
  unfold mx_a_zl2 at h
  split at h
  · rename_i j i r
    cases hq : mx_isB i with
    | false => rw [hq] at h; exact mx_l_zld hd h k
    | true =>
      rw [hq] at h
      obtain ⟨j0, hj, rfl⟩ := mx_isB_ok hq
      have e1 : (1000002 + 2 * j0 - 1000002) / 2 = j0 := by omega
      rw [e1] at h
      cases hi : mx_in j (mx_sln.getD j0 0) with
      | false => rw [hi] at h; cases h
      | true =>
        rw [hi] at h
        cases h
        exact mx_sbld hj (mx_in_ok hi) hd k
  · cases h
theorem mx_l_len2 (hd : decode M.2.1 pc = .ok (.arraylength, 1)) (h : mx_a_len2 E.2.2.2.2.2.2.1 E.2.2.2.2.2.2.2 (pc + 1) ls st hp = some q1) (k : mx_G l E M R mc ms K cells slots q1) : mx_W l E M R mc ms K cells slots pc ls st hp := by
  unfold mx_a_len2 at h
  split at h
  · rename_i i r
    cases hq : mx_isB i with
    | false => rw [hq] at h; exact mx_l_len hd h k
    | true =>
      rw [hq] at h
      obtain ⟨j0, hj, rfl⟩ := mx_isB_ok hq
      have e1 : (1000002 + 2 * j0 - 1000002) / 2 = j0 := by omega
      rw [e1] at h
      cases h
      exact mx_sblen hj hd k
  · cases h
end MXR
