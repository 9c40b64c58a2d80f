/-! ===== a run does not hang on locals that it need not have ===== -/
def mx_c1 (ls : List (Nat × Value)) : Prop := ∀ q ∈ ls, q.2.category = 1
def mx_sub (ls ls' : List (Nat × Value)) : Prop := mx_c1 ls ∧ mx_c1 ls' ∧ ∀ i v, mx_at ls i = some v → mx_at ls' i = some v
theorem mx_at_keep {ls : List (Nat × Value)} (h : mx_c1 ls) (i k : Nat) : mx_at (ls.filter (mx_keep i)) k = if k = i then none else mx_at ls k := by
  induction ls with
  | nil => simp [mx_at]
  | cons q l ih =>
    have hl : mx_c1 l := fun x hx => h x (List.mem_cons_of_mem _ hx)
    have hq : mx_keep i q = !(q.1 == i) := by
      unfold mx_keep
      have : (q.2.category == 2) = false := by rw [h q List.mem_cons_self]; rfl
      simp [this]
    rw [List.filter_cons, hq]
    by_cases e : q.1 = i
    · simp only [e, beq_self_eq_true, Bool.not_true, Bool.false_eq_true, if_false]
      rw [ih hl]
      by_cases ek : k = i
      · simp [ek]
      · have : Nat.beq q.1 k = false := by rw [← Bool.not_eq_true]; exact fun z => ek (by rw [← e]; exact (Nat.eq_of_beq_eq_true z).symm)
        rw [if_neg ek, if_neg ek]
        show _ = cond (Nat.beq q.1 k) _ _
        rw [this]; rfl
    · have e2 : (q.1 == i) = false := by simp [e]
      rw [e2]
      simp only [Bool.not_false, if_true]
      show cond (Nat.beq q.1 k) (some q.2) (mx_at (l.filter (mx_keep i)) k) = _
      rw [ih hl]
      by_cases ek : k = i
      · have : Nat.beq q.1 k = false := by rw [← Bool.not_eq_true]; exact fun z => e (by rw [← ek]; exact Nat.eq_of_beq_eq_true z)
        rw [this, if_pos ek, if_pos ek]; rfl
      · rw [if_neg ek, if_neg ek]; rfl
theorem mx_c1_put {ls : List (Nat × Value)} (h : mx_c1 ls) {i : Nat} {v : Value} (hv : v.category = 1) : mx_c1 (mx_put ls i v) := by
  intro q hq
  rcases List.mem_cons.mp hq with rfl | hq
  · exact hv
  · exact h q (List.mem_filter.mp hq).1
theorem mx_sub.put {ls ls' : List (Nat × Value)} (h : mx_sub ls ls') {i : Nat} {v : Value} (hv : v.category = 1) : mx_sub (mx_put ls i v) (mx_put ls' i v) := by
  refine ⟨mx_c1_put h.1 hv, mx_c1_put h.2.1 hv, fun k w hk => ?_⟩
  unfold mx_put at hk ⊢
  unfold mx_at at hk ⊢
  cases hb : Nat.beq i k with
  | true => rw [hb] at hk; exact hk
  | false =>
    rw [hb] at hk
    dsimp only [cond] at hk ⊢
    rw [mx_at_keep h.1] at hk
    rw [mx_at_keep h.2.1]
    by_cases ek : k = i
    · rw [if_pos ek] at hk; cases hk
    · rw [if_neg ek] at hk ⊢
      exact h.2.2 k w hk
/-- it hands the locals on as they are -/
def mx_pass (F : List (Nat × Value) → Option mx_Cf) : Prop := ∀ ls ls' f, F ls = some f → f.2.1 = ls ∧ F ls' = some (f.1, ls', f.2.2)
theorem mx_pass_some {a : Nat} {c : List Value × List va_E × Nat × Nat} : mx_pass (fun ls => some (a, ls, c)) := by
  intro ls ls' f h
  cases h
  exact ⟨rfl, rfl⟩
theorem mx_pass_none : mx_pass (fun _ => none) := by
  intro ls ls' f h
  cases h
theorem mx_pass_cond {b : Bool} {F G : List (Nat × Value) → Option mx_Cf} (h1 : mx_pass F) (h2 : mx_pass G) : mx_pass (fun ls => cond b (F ls) (G ls)) := by
  cases b
  · exact h2
  · exact h1
theorem mx_pass_1 {f : Int32 → Int32} {pc : Nat} {st : List Value} {hp : List va_E} : mx_pass (fun ls => mx_a_1 f pc ls st hp) := by
  unfold mx_a_1
  split
  · exact mx_pass_some
  · exact mx_pass_none
theorem mx_pass_2 {f : Int32 → Int32 → Int32} {pc : Nat} {st : List Value} {hp : List va_E} : mx_pass (fun ls => mx_a_2 f pc ls st hp) := by
  unfold mx_a_2
  split
  · exact mx_pass_some
  · exact mx_pass_none
theorem mx_pass_2n {f : Int32 → Int32 → Int32} {pc : Nat} {st : List Value} {hp : List va_E} : mx_pass (fun ls => mx_a_2n f pc ls st hp) := by
  unfold mx_a_2n
  split
  · exact mx_pass_cond mx_pass_none mx_pass_some
  · exact mx_pass_none
theorem mx_pass_b1 {t : Int32 → Bool} {tgt pc : Nat} {st : List Value} {hp : List va_E} : mx_pass (fun ls => mx_a_b1 t tgt pc ls st hp) := by
  unfold mx_a_b1
  split
  · exact mx_pass_some
  · exact mx_pass_none
theorem mx_pass_b2 {t : Int32 → Int32 → Bool} {tgt pc : Nat} {st : List Value} {hp : List va_E} : mx_pass (fun ls => mx_a_b2 t tgt pc ls st hp) := by
  unfold mx_a_b2
  split
  · exact mx_pass_some
  · exact mx_pass_none
theorem mx_pass_get {ci k pc : Nat} {st : List Value} {hp : List va_E} : mx_pass (fun ls => mx_a_get ci k pc ls st hp) := by
  unfold mx_a_get
  split
  · split
    · refine mx_pass_cond ?_ mx_pass_none
      split
      · exact mx_pass_some
      · exact mx_pass_none
    · exact mx_pass_none
  · exact mx_pass_none
theorem mx_pass_sget {b pc : Nat} {st : List Value} {hp : List va_E} : mx_pass (fun ls => mx_a_sget b pc ls st hp) := by
  unfold mx_a_sget
  split
  · exact mx_pass_cond (mx_pass_cond mx_pass_some mx_pass_some) mx_pass_none
  · exact mx_pass_none
theorem mx_pass_put {ci k pc : Nat} {st : List Value} {hp : List va_E} : mx_pass (fun ls => mx_a_put ci k pc ls st hp) := by
  unfold mx_a_put
  split
  · split
    · exact mx_pass_cond mx_pass_some mx_pass_none
    · exact mx_pass_none
  · exact mx_pass_none
theorem mx_pass_ald {sL : Nat} {sx : Nat → Int32} {pc : Nat} {st : List Value} {hp : List va_E} : mx_pass (fun ls => mx_a_ald sL sx pc ls st hp) := by
  unfold mx_a_ald
  split
  · refine mx_pass_cond (mx_pass_cond mx_pass_some mx_pass_none) ?_
    split
    · exact mx_pass_cond mx_pass_some mx_pass_none
    · exact mx_pass_none
  · exact mx_pass_none
theorem mx_pass_zld {pc : Nat} {st : List Value} {hp : List va_E} : mx_pass (fun ls => mx_a_zld pc ls st hp) := by
  unfold mx_a_zld
  split
  · split
    · exact mx_pass_cond mx_pass_some mx_pass_none
    · exact mx_pass_none
  · exact mx_pass_none
theorem mx_pass_zl2 {pc : Nat} {st : List Value} {hp : List va_E} : mx_pass (fun ls => mx_a_zl2 pc ls st hp) := by
  unfold mx_a_zl2
  split
  · exact mx_pass_cond (mx_pass_cond mx_pass_some mx_pass_none) mx_pass_zld
  · exact mx_pass_none
theorem mx_pass_ast {pc : Nat} {st : List Value} {hp : List va_E} : mx_pass (fun ls => mx_a_ast pc ls st hp) := by
  unfold mx_a_ast
  split
  · split
    · exact mx_pass_cond mx_pass_some mx_pass_none
    · exact mx_pass_none
  · exact mx_pass_none
theorem mx_pass_zst {pc : Nat} {st : List Value} {hp : List va_E} : mx_pass (fun ls => mx_a_zst pc ls st hp) := by
  unfold mx_a_zst
  split
  · split
    · exact mx_pass_cond mx_pass_some mx_pass_none
    · exact mx_pass_none
  · exact mx_pass_none
theorem mx_pass_len {sL : Nat} {sx : Nat → Int32} {pc : Nat} {st : List Value} {hp : List va_E} : mx_pass (fun ls => mx_a_len sL sx pc ls st hp) := by
  unfold mx_a_len
  split
  · refine mx_pass_cond mx_pass_some ?_
    split
    · exact mx_pass_cond mx_pass_some mx_pass_none
    · exact mx_pass_none
  · exact mx_pass_none
theorem mx_pass_len2 {sL : Nat} {sx : Nat → Int32} {pc : Nat} {st : List Value} {hp : List va_E} : mx_pass (fun ls => mx_a_len2 sL sx pc ls st hp) := by
  unfold mx_a_len2
  split
  · exact mx_pass_cond mx_pass_some mx_pass_len
  · exact mx_pass_none
theorem mx_pass_na {t pc : Nat} {st : List Value} {hp : List va_E} : mx_pass (fun ls => mx_a_na t pc ls st hp) := by
  unfold mx_a_na
  split
  · exact mx_pass_cond mx_pass_some mx_pass_none
  · exact mx_pass_none
theorem mx_pass_new {ci pc : Nat} {st : List Value} {hp : List va_E} : mx_pass (fun ls => mx_a_new ci pc ls st hp) := by
  unfold mx_a_new
  exact mx_pass_cond mx_pass_some mx_pass_none
theorem mx_pass_dup {pc : Nat} {st : List Value} {hp : List va_E} : mx_pass (fun ls => mx_a_dup pc ls st hp) := by
  unfold mx_a_dup
  split
  · exact mx_pass_cond mx_pass_some mx_pass_none
  · exact mx_pass_none
theorem mx_pass_pop {pc : Nat} {st : List Value} {hp : List va_E} : mx_pass (fun ls => mx_a_pop pc ls st hp) := by
  unfold mx_a_pop
  split
  · exact mx_pass_cond mx_pass_some mx_pass_none
  · exact mx_pass_none
theorem mx_pass_dx1 {pc : Nat} {st : List Value} {hp : List va_E} : mx_pass (fun ls => mx_a_dx1 pc ls st hp) := by
  unfold mx_a_dx1
  split
  · exact mx_pass_cond mx_pass_some mx_pass_none
  · exact mx_pass_none
theorem mx_pass_dx2 {pc : Nat} {st : List Value} {hp : List va_E} : mx_pass (fun ls => mx_a_dx2 pc ls st hp) := by
  unfold mx_a_dx2
  split
  · exact mx_pass_cond mx_pass_some mx_pass_none
  · exact mx_pass_none
theorem mx_pass_d2 {pc : Nat} {st : List Value} {hp : List va_E} : mx_pass (fun ls => mx_a_d2 pc ls st hp) := by
  unfold mx_a_d2
  split
  · exact mx_pass_cond mx_pass_some mx_pass_none
  · exact mx_pass_none
theorem mx_pass_ts {pc : Nat} {dflt lo hi : Int} {offs : Array Int} {st : List Value} {hp : List va_E} : mx_pass (fun ls => mx_a_ts pc dflt lo hi offs ls st hp) := by
  unfold mx_a_ts
  split
  · refine mx_pass_cond (mx_pass_cond mx_pass_some mx_pass_none) ?_
    split
    · exact mx_pass_cond mx_pass_some mx_pass_none
    · exact mx_pass_none
  · exact mx_pass_none
theorem mx_pass_nat {b pc : Nat} {st : List Value} {hp : List va_E} : mx_pass (fun ls => mx_nat b pc ls st hp) := by
  unfold mx_nat
  split
  · unfold mx_a_cpy
    split
    · split
      · split
        · exact mx_pass_cond mx_pass_some mx_pass_none
        · exact mx_pass_none
      · exact mx_pass_none
    · exact mx_pass_none
  · unfold mx_a_m
    split
    · exact mx_pass_cond mx_pass_some mx_pass_none
    · exact mx_pass_none
  · unfold mx_a_m
    split
    · exact mx_pass_cond mx_pass_some mx_pass_none
    · exact mx_pass_none
  · unfold mx_a_ci
    split
    · exact mx_pass_cond mx_pass_some mx_pass_none
    · exact mx_pass_none
  · exact mx_pass_none
/-- with more locals it does the same -/
def mx_more (ls' : List (Nat × Value)) (f : mx_Cf) (r : Option mx_Cf) : Prop := ∃ l', r = some (f.1, l', f.2.2) ∧ mx_sub f.2.1 l'
theorem mx_more_pass {F : List (Nat × Value) → Option mx_Cf} (h : mx_pass F) {ls ls' : List (Nat × Value)} {f : mx_Cf} (hs : mx_sub ls ls') (hf : F ls = some f) : mx_more ls' f (F ls') := by
  obtain ⟨h1, h2⟩ := h ls ls' f hf
  exact ⟨ls', h2, by rw [h1]; exact hs⟩
theorem mx_more_li {pc i : Nat} {ls ls' : List (Nat × Value)} {st : List Value} {hp : List va_E} {f : mx_Cf} (hs : mx_sub ls ls') (hf : mx_a_li pc i ls st hp = some f) : mx_more ls' f (mx_a_li pc i ls' st hp) := by
  unfold mx_a_li at hf ⊢
  split at hf
  · rename_i x hx
    cases hf
    rw [hs.2.2 _ _ hx]
    exact ⟨ls', rfl, hs⟩
  · cases hf
theorem mx_more_la {pc i : Nat} {ls ls' : List (Nat × Value)} {st : List Value} {hp : List va_E} {f : mx_Cf} (hs : mx_sub ls ls') (hf : mx_a_la pc i ls st hp = some f) : mx_more ls' f (mx_a_la pc i ls' st hp) := by
  unfold mx_a_la at hf ⊢
  split at hf
  · rename_i x hx
    cases hf
    rw [hs.2.2 _ _ hx]
    exact ⟨ls', rfl, hs⟩
  · cases hf
theorem mx_more_si {pc i : Nat} {ls ls' : List (Nat × Value)} {st : List Value} {hp : List va_E} {f : mx_Cf} (hs : mx_sub ls ls') (hf : mx_a_si pc i ls st hp = some f) : mx_more ls' f (mx_a_si pc i ls' st hp) := by
  unfold mx_a_si at hf ⊢
  split at hf
  · cases hf
    exact ⟨_, rfl, hs.put rfl⟩
  · cases hf
theorem mx_more_sa {pc i : Nat} {ls ls' : List (Nat × Value)} {st : List Value} {hp : List va_E} {f : mx_Cf} (hs : mx_sub ls ls') (hf : mx_a_sa pc i ls st hp = some f) : mx_more ls' f (mx_a_sa pc i ls' st hp) := by
  unfold mx_a_sa at hf ⊢
  split at hf
  · cases hf
    exact ⟨_, rfl, hs.put rfl⟩
  · cases hf
theorem mx_more_inc {pc i : Nat} {n : Int} {ls ls' : List (Nat × Value)} {st : List Value} {hp : List va_E} {f : mx_Cf} (hs : mx_sub ls ls') (hf : mx_a_inc pc i n ls st hp = some f) : mx_more ls' f (mx_a_inc pc i n ls' st hp) := by
  unfold mx_a_inc at hf ⊢
  split at hf
  · rename_i x hx
    cases hf
    rw [hs.2.2 _ _ hx]
    exact ⟨_, rfl, hs.put rfl⟩
  · cases hf
theorem mx_step_sub {sL : Nat} {sx : Nat → Int32} {q : mx_In} {pc : Nat} {ls ls' : List (Nat × Value)} {st : List Value} {hp : List va_E} {f : mx_Cf} (hs : mx_sub ls ls') (hf : mx_step sL sx q pc ls st hp = some f) : mx_more ls' f (mx_step sL sx q pc ls' st hp) := by
  obtain ⟨ins, q⟩ := q
  unfold mx_step at hf ⊢
  dsimp only at hf ⊢
  split at hf
  all_goals first
    | (cases hf; done)
    | exact mx_more_li hs hf
    | exact mx_more_la hs hf
    | exact mx_more_si hs hf
    | exact mx_more_sa hs hf
    | exact mx_more_inc hs hf
    | exact mx_more_pass mx_pass_1 hs hf
    | exact mx_more_pass mx_pass_2 hs hf
    | exact mx_more_pass mx_pass_2n hs hf
    | exact mx_more_pass mx_pass_b1 hs hf
    | exact mx_more_pass mx_pass_b2 hs hf
    | exact mx_more_pass mx_pass_ts hs hf
    | exact mx_more_pass (mx_pass_cond mx_pass_sget mx_pass_get) hs hf
    | exact mx_more_pass mx_pass_put hs hf
    | exact mx_more_pass mx_pass_ald hs hf
    | exact mx_more_pass mx_pass_ast hs hf
    | exact mx_more_pass mx_pass_zl2 hs hf
    | exact mx_more_pass mx_pass_zst hs hf
    | exact mx_more_pass mx_pass_len2 hs hf
    | exact mx_more_pass mx_pass_na hs hf
    | exact mx_more_pass mx_pass_new hs hf
    | exact mx_more_pass mx_pass_dup hs hf
    | exact mx_more_pass mx_pass_pop hs hf
    | exact mx_more_pass mx_pass_dx1 hs hf
    | exact mx_more_pass mx_pass_dx2 hs hf
    | exact mx_more_pass mx_pass_d2 hs hf
    | exact mx_more_pass (mx_pass_cond mx_pass_some mx_pass_some) hs hf
    | exact mx_more_pass mx_pass_some hs hf
set_option maxHeartbeats 4000000 in
theorem mx_run_sub {sL : Nat} {sx : Nat → Int32} {pg : List mx_En} : ∀ (n d mi pc : Nat) (ls ls' : List (Nat × Value)) (st : List Value) (hp : List va_E) (c s : Nat) (r : Option Value × List va_E × Nat × Nat), mx_sub ls ls' → mx_run sL sx pg n d mi pc ls st hp c s = some r → mx_run sL sx pg n d mi pc ls' st hp c s = some r := by
  intro n
  induction n with
  | zero => intro d mi pc ls ls' st hp c s r hs h; cases h
  | succ n ih =>
    intro d mi pc ls ls' st hp c s r hs h
    unfold mx_run at h ⊢
    cases he : pg[mi]? with
    | none => rw [he] at h; cases h
    | some e =>
      rw [he] at h
      dsimp only at h ⊢
      cases hq : mx_lk e.2.2.2 pc with
      | none => rw [hq] at h; cases h
      | some q =>
        rw [hq] at h
        dsimp only at h ⊢
        split at h
        · exact h
        · exact h
        · split at h
          · cases h
          split at h
          · cases h
          split at h
          · rw [Bool.cond_eq_ite] at h ⊢
            split at h
            · rename_i hb
              rw [if_pos hb]
              split at h
              · cases h
              rename_i r1 hr1
              exact ih _ _ _ _ _ _ _ _ _ _ hs h
            · cases h
          · cases h
        · split at h
          · cases h
          rw [Bool.cond_eq_ite] at h ⊢
          split at h
          · rename_i hb
            rw [if_pos hb]
            split at h
            · rw [Bool.cond_eq_ite] at h ⊢
              split at h
              · rename_i hb2
                rw [if_pos hb2]
                exact ih _ _ _ _ _ _ _ _ _ _ hs h
              · cases h
            · cases h
          · rename_i hb
            rw [if_neg hb]
            split at h
            · cases h
            split at h
            · rw [Bool.cond_eq_ite] at h ⊢
              split at h
              · rename_i hb2
                rw [if_pos hb2]
                split at h
                · cases h
                rename_i r1 hr1
                exact ih _ _ _ _ _ _ _ _ _ _ hs h
              · cases h
            · cases h
        · split at h
          · cases h
          rename_i d1
          rw [Bool.cond_eq_ite] at h ⊢
          split at h
          · rename_i hb
            rw [if_pos hb]
            split at h
            · cases h
            rename_i f hf
            have hp1 : mx_pass (fun ls => cond (Nat.beq d1 0) none (mx_nat q.2.2.2.1 (pc + 3) ls st hp)) := mx_pass_cond mx_pass_none mx_pass_nat
            obtain ⟨l', g1, g2⟩ := mx_more_pass hp1 hs hf
            rw [g1]
            exact ih _ _ _ _ _ _ _ _ _ _ g2 h
          · rename_i hb
            rw [if_neg hb]
            split at h
            · cases h
            rw [Bool.cond_eq_ite] at h ⊢
            split at h
            · rename_i hb2
              rw [if_pos hb2]
              split at h
              · cases h
              rename_i r1 hr1
              exact ih _ _ _ _ _ _ _ _ _ _ hs h
            · cases h
        · split at h
          · cases h
          rename_i f hf
          obtain ⟨l', g1, g2⟩ := mx_step_sub hs hf
          rw [g1]
          exact ih _ _ _ _ _ _ _ _ _ _ g2 h
theorem sx_c1 (ls : sx_L) : mx_c1 (ls.map sx_ed) := by
  intro q hq
  obtain ⟨x, -, rfl⟩ := List.mem_map.mp hq
  exact sx_e_cat x.2
