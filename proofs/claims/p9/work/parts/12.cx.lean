/-! ===== how the ranges are kept; what has not changed ===== -/
theorem cx_I.mk {s : sx_S} (h0 : ∀ p k, p < 125 → (cx_rng p k).1 ≤ s.1 p k ∧ s.1 p k ≤ (cx_rng p k).2) (h1 : ∀ p j, p < 125 → (cx_arg p).1 ≤ s.2.1 p j ∧ s.2.1 p j ≤ (cx_arg p).2) (h2 : ∀ j : Nat, (j : Int) < s.1 11 6 → s.2.1 16 j ≤ s.1 11 6) : cx_I s := by
  intro b p j hp
  match b with
  | 0 => exact h0 p j hp
  | 1 => exact h1 p j hp
  | _ + 2 => exact h2 j
theorem cx_I_ufA {F : Nat → Nat → Int} {B : (Nat → Nat → Int) × (Nat → Nat → Int) × Nat} {p k : Nat} {v lo hi : Int} (hr : cx_rng p k = (lo, hi)) (h : cx_I (F, B)) (h1 : lo ≤ v) (h2 : v ≤ hi) (h3 : ∀ j : Nat, (j : Int) < sx_uf F p k v 11 6 → B.1 16 j ≤ sx_uf F p k v 11 6) : cx_I (sx_uf F p k v, B) := by
  refine cx_I.mk (fun q j hq => ?_) (fun q j hq => h 1 q j hq) h3
  show _ ≤ sx_uf F p k v q j ∧ sx_uf F p k v q j ≤ _
  rw [sx_uf_if]
  split
  · rename_i e
    obtain ⟨rfl, rfl⟩ := e
    rw [hr]
    exact ⟨h1, h2⟩
  · exact h 0 q j hq
theorem cx_I_uf {F : Nat → Nat → Int} {B : (Nat → Nat → Int) × (Nat → Nat → Int) × Nat} {p k : Nat} {v lo hi : Int} (hr : cx_rng p k = (lo, hi)) (hn : (Nat.beq p 11 && Nat.beq k 6) = false) (h : cx_I (F, B)) (h1 : lo ≤ v) (h2 : v ≤ hi) : cx_I (sx_uf F p k v, B) := by
  refine cx_I_ufA hr h h1 h2 (fun j hj => ?_)
  have e : sx_uf F p k v 11 6 = F 11 6 := by
    rw [sx_uf_if]
    refine if_neg (fun q => ?_)
    rw [← q.1, ← q.2] at hn
    exact absurd hn (by decide)
  rw [e] at hj ⊢
  exact h.ar j hj
theorem cx_I_uaA {F A : Nat → Nat → Int} {B : (Nat → Nat → Int) × Nat} {p k : Nat} {v lo hi : Int} (hr : cx_arg p = (lo, hi)) (h : cx_I (F, A, B)) (h1 : lo ≤ v) (h2 : v ≤ hi) (h3 : ∀ j : Nat, (j : Int) < F 11 6 → sx_ua A p k v 16 j ≤ F 11 6) : cx_I (F, sx_ua A p k v, B) := by
  refine cx_I.mk (fun q j hq => h 0 q j hq) (fun q j hq => ?_) h3
  show _ ≤ sx_ua A p k v q j ∧ sx_ua A p k v q j ≤ _
  by_cases e : q = p
  · subst e
    rw [sx_ua_same]
    dsimp only
    split
    · rw [hr]
      exact ⟨h1, h2⟩
    · exact h 1 q j hq
  · rw [sx_ua_ne e]
    exact h 1 q j hq
theorem cx_I_ua {F A : Nat → Nat → Int} {B : (Nat → Nat → Int) × Nat} {p k : Nat} {v lo hi : Int} (hr : cx_arg p = (lo, hi)) (hn : Nat.beq p 16 = false) (h : cx_I (F, A, B)) (h1 : lo ≤ v) (h2 : v ≤ hi) : cx_I (F, sx_ua A p k v, B) := by
  refine cx_I_uaA hr h h1 h2 (fun j hj => ?_)
  have e : sx_ua A p k v 16 = A 16 := sx_ua_ne (fun q => by rw [← q] at hn; exact absurd hn (by decide))
  rw [e]
  exact h.ar j hj
/-- the number of ARGs of a node -/
theorem cx_I_ari {F A : Nat → Nat → Int} {B : (Nat → Nat → Int) × Nat} {k : Nat} {v : Int} (h : cx_I (F, A, B)) (h1 : -2147483648 ≤ v) (h2 : v ≤ F 11 6) : cx_I (F, sx_ua A 16 k v, B) := by
  have h3 := (h.fld 11 6 (by decide) rfl).2
  dsimp only at h3
  refine cx_I_uaA (p := 16) rfl h h1 (by omega) (fun j hj => ?_)
  rw [sx_ua_same]
  dsimp only
  split
  · exact h2
  · exact h.ar j hj
theorem cx_I_cpy {F A : Nat → Nat → Int} {B : (Nat → Nat → Int) × Nat} {p0 p1 a b n : Nat} {lo hi : Int} (hr : cx_arg p1 = (lo, hi)) (hr0 : cx_arg p0 = (lo, hi)) (hn : Nat.beq p1 16 = false) (h0 : p0 < 125) (h : cx_I (F, A, B)) : cx_I (F, sx_cpy A p0 p1 a b n, B) := by
  refine cx_I.mk (fun q j hq => h 0 q j hq) (fun q j hq => ?_) (fun j hj => ?_)
  · show _ ≤ sx_cpy A p0 p1 a b n q j ∧ sx_cpy A p0 p1 a b n q j ≤ _
    unfold sx_cpy
    cases e : Nat.beq q p1 with
    | false => exact h 1 q j hq
    | true =>
      have e1 := Nat.eq_of_beq_eq_true e
      subst e1
      dsimp only [cond]
      split
      · have : (cx_arg p0).1 ≤ A p0 (a + (j - b)) ∧ A p0 (a + (j - b)) ≤ (cx_arg p0).2 := h 1 p0 (a + (j - b)) h0
        rw [hr]
        rw [hr0] at this
        exact this
      · exact h 1 q j hq
  · show sx_cpy A p0 p1 a b n 16 j ≤ _
    unfold sx_cpy
    have : Nat.beq 16 p1 = false := by
      rw [← Bool.not_eq_true]
      intro q
      rw [← Nat.eq_of_beq_eq_true q] at hn
      exact absurd hn (by decide)
    rw [this]
    exact h.ar j hj
/-- so many nodes more than ARGs since then -/
def sl (k : Nat) (s t : sx_S) : Prop := ∀ n : Nat, s.1 11 6 + (k : Int) ≤ t.1 11 6 ∧ ((n : Int) < t.1 11 6 → t.2.1 16 n + (k : Int) ≤ (if (n : Int) < s.1 11 6 then s.2.1 16 n else 0) + (t.1 11 6 - s.1 11 6))
theorem sl_refl (s : sx_S) : sl 0 s s := by
  intro n
  refine ⟨by omega, fun h => ?_⟩
  rw [if_pos h]
  omega
theorem sl_tr {a b : Nat} {s t u : sx_S} (h2 : sl b t u) (h1 : sl a s t) : sl (a + b) s u := by
  intro n
  obtain ⟨p1, p2⟩ := h1 n
  obtain ⟨q1, q2⟩ := h2 n
  refine ⟨by push_cast; omega, fun hn => ?_⟩
  have q3 := q2 hn
  by_cases ht : (n : Int) < t.1 11 6
  · rw [if_pos ht] at q3
    have p3 := p2 ht
    push_cast
    omega
  · rw [if_neg ht] at q3
    have hs : ¬ (n : Int) < s.1 11 6 := by omega
    rw [if_neg hs]
    push_cast
    omega
theorem sl_0 {k : Nat} {s t u : sx_S} (h2 : sl 0 t u) (h1 : sl k s t) : sl k s u := sl_tr h2 h1
theorem sl_1 {k : Nat} {s t u : sx_S} (h2 : sl 1 t u) (h1 : sl k s t) : sl (k + 1) s u := sl_tr h2 h1
theorem sl_weak {k : Nat} {s t : sx_S} (h : sl (k + 1) s t) : sl k s t := by
  intro n
  obtain ⟨p1, p2⟩ := h n
  push_cast at p1 p2
  exact ⟨by omega, fun hn => by have := p2 hn; omega⟩
theorem sl_same {k : Nat} {s t u : sx_S} (e1 : u.1 11 6 = t.1 11 6) (e2 : u.2.1 16 = t.2.1 16) (h : sl k s t) : sl k s u := by
  intro n
  have := h n
  rw [e1, e2]
  exact this
theorem sl_uf {k : Nat} {s : sx_S} {F : Nat → Nat → Int} {B : (Nat → Nat → Int) × (Nat → Nat → Int) × Nat} {p q : Nat} {v : Int} (hn : (Nat.beq p 11 && Nat.beq q 6) = false) (h : sl k s (F, B)) : sl k s (sx_uf F p q v, B) := by
  refine sl_same (t := (F, B)) ?_ rfl h
  show sx_uf F p q v 11 6 = F 11 6
  rw [sx_uf_if]
  refine if_neg (fun z => ?_)
  rw [← z.1, ← z.2] at hn
  exact absurd hn (by decide)
theorem sl_ua {k : Nat} {s : sx_S} {F A : Nat → Nat → Int} {B : (Nat → Nat → Int) × Nat} {p q : Nat} {v : Int} (hn : Nat.beq p 16 = false) (h : sl k s (F, A, B)) : sl k s (F, sx_ua A p q v, B) :=
  sl_same (t := (F, A, B)) rfl (sx_ua_ne (fun z => by rw [← z] at hn; exact absurd hn (by decide))) h
/-- there is room for one ARG more -/
theorem sl_room {k : Nat} {s t : sx_S} (hs : cx_I s) (h : sl (k + 1) s t) {x : Int} (h0 : 0 ≤ x) (h1 : x < t.1 11 6) : t.2.1 16 x.toNat + 1 ≤ t.1 11 6 := by
  obtain ⟨p1, p2⟩ := h x.toNat
  push_cast at p1 p2
  have p3 := p2 (by omega)
  by_cases hx : ((x.toNat : Nat) : Int) < s.1 11 6
  · rw [if_pos hx] at p3
    have := hs.ar x.toNat hx
    omega
  · rw [if_neg hx] at p3
    have := (hs.fld 11 6 (by decide) rfl).1
    omega
/-- nothing but these places has changed -/
def cx_out (W : List (Nat × Nat)) (p : Nat) : Prop := ∀ q ∈ W, p < q.1 ∨ q.2 < p
def cx_F (W : List (Nat × Nat)) (s t : sx_S) : Prop := ∀ p, (cx_out W p → t.1 p = s.1 p ∧ t.2.1 p = s.2.1 p) ∧ t.2.2 = s.2.2
def cx_has : List (Nat × Nat) → Nat → Bool
  | [], _ => false
  | q :: l, p => (Nat.ble q.1 p && Nat.ble p q.2) || cx_has l p
theorem cx_has_ok : ∀ {W : List (Nat × Nat)} {p : Nat}, cx_has W p = true → ¬ cx_out W p
  | [], p, h => by cases h
  | q :: l, p, h => by
    intro ho
    unfold cx_has at h
    rw [Bool.or_eq_true, Bool.and_eq_true] at h
    rcases h with ⟨h1, h2⟩ | h
    · have a := Nat.ble_eq.mp h1
      have b := Nat.ble_eq.mp h2
      rcases ho q List.mem_cons_self with c | c <;> omega
    · exact cx_has_ok h (fun x hx => ho x (List.mem_cons_of_mem _ hx))
def cx_hasI : List (Nat × Nat) → Nat × Nat → Bool
  | [], _ => false
  | q :: l, p => (Nat.ble q.1 p.1 && Nat.ble p.2 q.2) || cx_hasI l p
def cx_le (V W : List (Nat × Nat)) : Bool := V.all (cx_hasI W)
theorem cx_hasI_ok : ∀ {W : List (Nat × Nat)} {p : Nat × Nat} {q : Nat}, cx_hasI W p = true → cx_out W q → q < p.1 ∨ p.2 < q
  | [], p, q, h, ho => by cases h
  | x :: l, p, q, h, ho => by
    unfold cx_hasI at h
    rw [Bool.or_eq_true, Bool.and_eq_true] at h
    rcases h with ⟨h1, h2⟩ | h
    · have a := Nat.ble_eq.mp h1
      have b := Nat.ble_eq.mp h2
      rcases ho x List.mem_cons_self with c | c <;> omega
    · exact cx_hasI_ok h (fun y hy => ho y (List.mem_cons_of_mem _ hy))
theorem cx_le_ok {V W : List (Nat × Nat)} (h : cx_le V W = true) {p : Nat} (ho : cx_out W p) : cx_out V p := fun q hq => cx_hasI_ok (List.all_eq_true.mp h q hq) ho
def cx_outb : List (Nat × Nat) → Nat → Bool
  | [], _ => true
  | q :: l, p => (Nat.blt p q.1 || Nat.blt q.2 p) && cx_outb l p
theorem cx_outb_ok : ∀ {W : List (Nat × Nat)} {p : Nat}, cx_outb W p = true → cx_out W p
  | [], p, _ => fun q hq => absurd hq List.not_mem_nil
  | x :: l, p, h => by
    unfold cx_outb at h
    rw [Bool.and_eq_true, Bool.or_eq_true] at h
    intro q hq
    rcases List.mem_cons.mp hq with rfl | hq
    · rcases h.1 with c | c
      · exact Or.inl (Nat.ble_eq.mp c)
      · exact Or.inr (Nat.ble_eq.mp c)
    · exact cx_outb_ok h.2 q hq
theorem cx_F_refl (W : List (Nat × Nat)) (s : sx_S) : cx_F W s s := fun _ => ⟨fun _ => ⟨rfl, rfl⟩, rfl⟩
theorem cx_F_uf {W : List (Nat × Nat)} {s : sx_S} {F : Nat → Nat → Int} {B : (Nat → Nat → Int) × (Nat → Nat → Int) × Nat} {p k : Nat} {v : Int} (hp : cx_has W p = true) (h : cx_F W s (F, B)) : cx_F W s (sx_uf F p k v, B) := by
  intro q
  refine ⟨fun ho => ?_, (h q).2⟩
  have : q ≠ p := fun e => cx_has_ok hp (e ▸ ho)
  refine ⟨?_, ((h q).1 ho).2⟩
  show sx_uf F p k v q = _
  rw [sx_fv_ne this]
  exact ((h q).1 ho).1
theorem cx_F_ua {W : List (Nat × Nat)} {s : sx_S} {F A : Nat → Nat → Int} {B : (Nat → Nat → Int) × Nat} {p k : Nat} {v : Int} (hp : cx_has W p = true) (h : cx_F W s (F, A, B)) : cx_F W s (F, sx_ua A p k v, B) := by
  intro q
  refine ⟨fun ho => ?_, (h q).2⟩
  have : q ≠ p := fun e => cx_has_ok hp (e ▸ ho)
  refine ⟨((h q).1 ho).1, ?_⟩
  show sx_ua A p k v q = _
  rw [sx_ua_ne this]
  exact ((h q).1 ho).2
theorem cx_F_cpy {W : List (Nat × Nat)} {s : sx_S} {F A : Nat → Nat → Int} {B : (Nat → Nat → Int) × Nat} {p0 p a b n : Nat} (hp : cx_has W p = true) (h : cx_F W s (F, A, B)) : cx_F W s (F, sx_cpy A p0 p a b n, B) := by
  intro q
  refine ⟨fun ho => ?_, (h q).2⟩
  have : q ≠ p := fun e => cx_has_ok hp (e ▸ ho)
  refine ⟨((h q).1 ho).1, ?_⟩
  rw [← ((h q).1 ho).2]
  funext j
  show sx_cpy A p0 p a b n q j = A q j
  unfold sx_cpy
  have : Nat.beq q p = false := by rw [← Bool.not_eq_true]; exact fun z => this (Nat.eq_of_beq_eq_true z)
  rw [this]
  rfl
theorem cx_F_step {V W : List (Nat × Nat)} {s t u : sx_S} (h2 : cx_F V t u) (hV : cx_le V W = true) (h1 : cx_F W s t) : cx_F W s u := by
  intro q
  refine ⟨fun ho => ?_, ((h2 q).2).trans (h1 q).2⟩
  obtain ⟨a1, a2⟩ := (h2 q).1 (cx_le_ok hV ho)
  obtain ⟨b1, b2⟩ := (h1 q).1 ho
  exact ⟨a1.trans b1, a2.trans b2⟩
/-- a place that has not changed -/
theorem cx_F.same {W : List (Nat × Nat)} {s t : sx_S} (h : cx_F W s t) (p : Nat) (hp : cx_outb W p = true) : t.1 p = s.1 p ∧ t.2.1 p = s.2.1 p := (h p).1 (cx_outb_ok hp)
theorem sx_w_t (z : Int) : sx_w true z = (z + 2147483648) % 4294967296 - 2147483648 := rfl
theorem sx_w_f (z : Int) : sx_w false z = z := rfl
theorem sx_ua_if (A : Nat → Nat → Int) (p j : Nat) (v : Int) (p' j' : Nat) : sx_ua A p j v p' j' = if p' = p then (if j' = j then v else A p' j') else A p' j' := by
  by_cases h : p' = p
  · subst h
    rw [sx_ua_same, if_pos rfl]
  · rw [sx_ua_ne h, if_neg h]
theorem sl_F {k : Nat} {W : List (Nat × Nat)} {s t u : sx_S} (hF : cx_F W t u) (h1 : cx_outb W 11 = true) (h2 : cx_outb W 16 = true) (h : sl k s t) : sl k s u := sl_same (congrFun (hF.same 11 h1).1 6) (hF.same 16 h2).2 h
def slp (z : Int) (s t : sx_S) : Prop := 0 ≤ z → sl 1 s t
def slq (z a : Int) (s t : sx_S) : Prop := 0 ≤ z → a < 0 → sl 1 s t
def sla (s t : sx_S) : Prop := ∀ (k : Nat) (s0 : sx_S), sl (k + 1) s0 s → sl k s0 t
theorem sl_1p {k : Nat} {z : Int} {s t u : sx_S} (h2 : slp z t u) (hz : 0 ≤ z) (h1 : sl k s t) : sl (k + 1) s u := sl_1 (h2 hz) h1
theorem sl_a {k : Nat} {s t u : sx_S} (h2 : sla t u) (h1 : sl (k + 1) s t) : sl k s u := h2 k s h1
theorem sl_pq {p g : Int} {s t t1 t2 : sx_S} (h1 : slp p t t1) (h2 : sl 0 t1 t2) (h3 : slq g p t1 t2) (hg : 0 ≤ g) (h : sl 0 s t) (h0 : sl 0 t t1) : sl 1 s t2 := by
  by_cases hp : 0 ≤ p
  · exact sl_0 h2 (sl_1 (h1 hp) h)
  · exact sl_1 (h3 hg (by omega)) (sl_0 h0 h)
theorem sl_room0 {s t : sx_S} (hs : cx_I s) {x : Int} (h0 : 0 ≤ x) (h1 : x < t.1 11 6) (h : sl 1 s t) : t.2.1 16 x.toNat + 1 ≤ t.1 11 6 := sl_room (k := 0) hs h h0 h1
theorem sl_mknode {s t : sx_S} (h0 : 0 ≤ s.1 11 6) (h1 : t.1 11 6 = s.1 11 6 + 1) (h2 : ∀ j : Nat, t.2.1 16 j = if (j : Int) = s.1 11 6 then 0 else s.2.1 16 j) : sl 1 s t := by
  intro n
  refine ⟨by rw [h1]; exact Int.le_refl _, fun hn => ?_⟩
  rw [h1] at hn ⊢
  rw [h2 n]
  by_cases e : (n : Int) = s.1 11 6
  · rw [if_pos e, if_neg (by omega)]
    push_cast
    omega
  · rw [if_neg e, if_pos (by omega)]
    push_cast
    omega
theorem sl_mkapp {s t : sx_S} (h1 : t.1 11 6 = s.1 11 6) (h2 : ∀ j : Nat, t.2.1 16 j ≤ s.2.1 16 j + 1) : sla s t := by
  intro k s0 h n
  obtain ⟨p1, p2⟩ := h n
  push_cast at p1 p2
  have := h2 n
  rw [h1]
  refine ⟨by omega, fun hn => ?_⟩
  have := p2 hn
  omega
theorem sla_weak {s t : sx_S} (h : sl 0 s t) : sla s t := fun k s0 h0 => sl_weak (sl_0 h h0)
theorem sla_pa {z : Int} {s t u : sx_S} (h1 : sl 0 s t) (h2 : sla t u) : sla s u := fun k s0 h0 => h2 k s0 (sl_0 h1 h0)
def slz (a b : Int) (s t : sx_S) : Prop := a < 0 ∨ b < 0 → sl 0 s t
theorem sl_na {k : Nat} {x z : Int} {s t t1 t2 : sx_S} (hp : slp z t t1) (ha : sla t1 t2) (hz : slz x z t1 t2) (h0 : sl 0 t t1) (h : sl k s t) : sl k s t2 := by
  by_cases q : 0 ≤ z
  · exact ha k s (sl_1 (hp q) h)
  · exact sl_0 (hz (Or.inr (by omega))) (sl_0 h0 h)
theorem sl_cna {x p g : Int} {s t t1 t2 t3 : sx_S} (h1 : slp p t t1) (h3 : slq g p t1 t2) (ha : sla t2 t3) (hz : slz x g t2 t3) (h0 : sl 0 t t1) (h2 : sl 0 t1 t2) (h : sl 0 s t) : sl 0 s t3 := by
  by_cases q : 0 ≤ g
  · exact ha 0 s (sl_pq h1 h2 h3 q h h0)
  · exact sl_0 (hz (Or.inr (by omega))) (sl_0 h2 (sl_0 h0 h))
