/-! ===== how the ranges are kept; what has not changed ===== -/
theorem cx_I_uf {F : Nat → Nat → Int} {B : (Nat → Nat → Int) × (Nat → Nat → Int) × Nat} {p k : Nat} {v lo hi : Int} (hr : cx_rng p k = (lo, hi)) (h : cx_I (F, B)) (h1 : lo ≤ v) (h2 : v ≤ hi) : cx_I (sx_uf F p k v, B) := by
  intro b q j hq
  cases b
  · exact h false q j hq
  · show _ ≤ sx_uf F p k v q j ∧ sx_uf F p k v q j ≤ _
    rw [sx_uf_if]
    split
    · rename_i e
      obtain ⟨rfl, rfl⟩ := e
      rw [hr]
      exact ⟨h1, h2⟩
    · exact h true q j hq
theorem cx_I_ua {F A : Nat → Nat → Int} {B : (Nat → Nat → Int) × Nat} {p k : Nat} {v lo hi : Int} (hr : cx_arg p = (lo, hi)) (h : cx_I (F, A, B)) (h1 : lo ≤ v) (h2 : v ≤ hi) : cx_I (F, sx_ua A p k v, B) := by
  intro b q j hq
  cases b
  · show _ ≤ sx_ua A p k v q j ∧ sx_ua A p k v q j ≤ _
    by_cases e : q = p
    · subst e
      rw [sx_ua_same]
      dsimp only
      split
      · rw [hr]
        exact ⟨h1, h2⟩
      · exact h false q j hq
    · rw [sx_ua_ne e]
      exact h false q j hq
  · exact h true q j hq
theorem cx_I_cpy {F A : Nat → Nat → Int} {B : (Nat → Nat → Int) × Nat} {p0 p1 a b n : Nat} {lo hi : Int} (hr : cx_arg p1 = (lo, hi)) (hr0 : cx_arg p0 = (lo, hi)) (h0 : p0 < 66) (h : cx_I (F, A, B)) : cx_I (F, sx_cpy A p0 p1 a b n, B) := by
  intro bb q j hq
  cases bb
  · show _ ≤ sx_cpy A p0 p1 a b n q j ∧ sx_cpy A p0 p1 a b n q j ≤ _
    unfold sx_cpy
    cases e : Nat.beq q p1 with
    | false => exact h false q j hq
    | true =>
      have e1 := Nat.eq_of_beq_eq_true e
      subst e1
      dsimp only [cond]
      split
      · have := h false p0 (a + (j - b)) h0
        rw [hr]
        rw [hr0] at this
        exact this
      · exact h false q j hq
  · exact h true q j hq
/-- nothing but these places has changed -/
def cx_out (W : List (Nat × Nat)) (p : Nat) : Prop := ∀ q ∈ W, p < q.1 ∨ q.2 < p
def cx_F (W : List (Nat × Nat)) (s t : sx_S) : Prop := ∀ p, (cx_out W p → t.1 p = s.1 p ∧ t.2.1 p = s.2.1 p) ∧ t.2.2 = s.2.2
def cx_has : List (Nat × Nat) → Nat → Bool
  | [], _ => false
  | q :: l, p => (Nat.ble q.1 p && Nat.ble p q.2) || cx_has l p
theorem cx_has_ok : ∀ {W : List (Nat × Nat)} {p : Nat}, cx_has W p = true → ¬ cx_out W p
  | [], p, h => by cases h
  | q :: l, p, h => by
    intro ho
    unfold cx_has at h
    rw [Bool.or_eq_true, Bool.and_eq_true] at h
    rcases h with ⟨h1, h2⟩ | h
    · have a := Nat.ble_eq.mp h1
      have b := Nat.ble_eq.mp h2
      rcases ho q List.mem_cons_self with c | c <;> omega
    · exact cx_has_ok h (fun x hx => ho x (List.mem_cons_of_mem _ hx))
def cx_hasI : List (Nat × Nat) → Nat × Nat → Bool
  | [], _ => false
  | q :: l, p => (Nat.ble q.1 p.1 && Nat.ble p.2 q.2) || cx_hasI l p
def cx_le (V W : List (Nat × Nat)) : Bool := V.all (cx_hasI W)
theorem cx_hasI_ok : ∀ {W : List (Nat × Nat)} {p : Nat × Nat} {q : Nat}, cx_hasI W p = true → cx_out W q → q < p.1 ∨ p.2 < q
  | [], p, q, h, ho => by cases h
  | x :: l, p, q, h, ho => by
    unfold cx_hasI at h
    rw [Bool.or_eq_true, Bool.and_eq_true] at h
    rcases h with ⟨h1, h2⟩ | h
    · have a := Nat.ble_eq.mp h1
      have b := Nat.ble_eq.mp h2
      rcases ho x List.mem_cons_self with c | c <;> omega
    · exact cx_hasI_ok h (fun y hy => ho y (List.mem_cons_of_mem _ hy))
theorem cx_le_ok {V W : List (Nat × Nat)} (h : cx_le V W = true) {p : Nat} (ho : cx_out W p) : cx_out V p := fun q hq => cx_hasI_ok (List.all_eq_true.mp h q hq) ho
def cx_outb : List (Nat × Nat) → Nat → Bool
  | [], _ => true
  | q :: l, p => (Nat.blt p q.1 || Nat.blt q.2 p) && cx_outb l p
theorem cx_outb_ok : ∀ {W : List (Nat × Nat)} {p : Nat}, cx_outb W p = true → cx_out W p
  | [], p, _ => fun q hq => absurd hq List.not_mem_nil
  | x :: l, p, h => by
    unfold cx_outb at h
    rw [Bool.and_eq_true, Bool.or_eq_true] at h
    intro q hq
    rcases List.mem_cons.mp hq with rfl | hq
    · rcases h.1 with c | c
      · exact Or.inl (Nat.ble_eq.mp c)
      · exact Or.inr (Nat.ble_eq.mp c)
    · exact cx_outb_ok h.2 q hq
theorem cx_F_refl (W : List (Nat × Nat)) (s : sx_S) : cx_F W s s := fun _ => ⟨fun _ => ⟨rfl, rfl⟩, rfl⟩
theorem cx_F_uf {W : List (Nat × Nat)} {s : sx_S} {F : Nat → Nat → Int} {B : (Nat → Nat → Int) × (Nat → Nat → Int) × Nat} {p k : Nat} {v : Int} (hp : cx_has W p = true) (h : cx_F W s (F, B)) : cx_F W s (sx_uf F p k v, B) := by
  intro q
  refine ⟨fun ho => ?_, (h q).2⟩
  have : q ≠ p := fun e => cx_has_ok hp (e ▸ ho)
  refine ⟨?_, ((h q).1 ho).2⟩
  show sx_uf F p k v q = _
  rw [sx_fv_ne this]
  exact ((h q).1 ho).1
theorem cx_F_ua {W : List (Nat × Nat)} {s : sx_S} {F A : Nat → Nat → Int} {B : (Nat → Nat → Int) × Nat} {p k : Nat} {v : Int} (hp : cx_has W p = true) (h : cx_F W s (F, A, B)) : cx_F W s (F, sx_ua A p k v, B) := by
  intro q
  refine ⟨fun ho => ?_, (h q).2⟩
  have : q ≠ p := fun e => cx_has_ok hp (e ▸ ho)
  refine ⟨((h q).1 ho).1, ?_⟩
  show sx_ua A p k v q = _
  rw [sx_ua_ne this]
  exact ((h q).1 ho).2
theorem cx_F_cpy {W : List (Nat × Nat)} {s : sx_S} {F A : Nat → Nat → Int} {B : (Nat → Nat → Int) × Nat} {p0 p a b n : Nat} (hp : cx_has W p = true) (h : cx_F W s (F, A, B)) : cx_F W s (F, sx_cpy A p0 p a b n, B) := by
  intro q
  refine ⟨fun ho => ?_, (h q).2⟩
  have : q ≠ p := fun e => cx_has_ok hp (e ▸ ho)
  refine ⟨((h q).1 ho).1, ?_⟩
  rw [← ((h q).1 ho).2]
  funext j
  show sx_cpy A p0 p a b n q j = A q j
  unfold sx_cpy
  have : Nat.beq q p = false := by rw [← Bool.not_eq_true]; exact fun z => this (Nat.eq_of_beq_eq_true z)
  rw [this]
  rfl
theorem cx_F_step {V W : List (Nat × Nat)} {s t u : sx_S} (h2 : cx_F V t u) (hV : cx_le V W = true) (h1 : cx_F W s t) : cx_F W s u := by
  intro q
  refine ⟨fun ho => ?_, ((h2 q).2).trans (h1 q).2⟩
  obtain ⟨a1, a2⟩ := (h2 q).1 (cx_le_ok hV ho)
  obtain ⟨b1, b2⟩ := (h1 q).1 ho
  exact ⟨a1.trans b1, a2.trans b2⟩
/-- a place that has not changed -/
theorem cx_F.same {W : List (Nat × Nat)} {s t : sx_S} (h : cx_F W s t) (p : Nat) (hp : cx_outb W p = true) : t.1 p = s.1 p ∧ t.2.1 p = s.2.1 p := (h p).1 (cx_outb_ok hp)
theorem sx_w_t (z : Int) : sx_w true z = (z + 2147483648) % 4294967296 - 2147483648 := rfl
theorem sx_w_f (z : Int) : sx_w false z = z := rfl
theorem sx_ua_if (A : Nat → Nat → Int) (p j : Nat) (v : Int) (p' j' : Nat) : sx_ua A p j v p' j' = if p' = p then (if j' = j then v else A p' j') else A p' j' := by
  by_cases h : p' = p
  · subst h
    rw [sx_ua_same, if_pos rfl]
  · rw [sx_ua_ne h, if_neg h]
