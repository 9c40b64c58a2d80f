/-! ===== a method's course over integers: what must hold from a place on, up to places where it stops; the evaluator ends there ===== -/
def sx_spl : Nat → List sx_V → List sx_V → Option (List sx_V × List sx_V)
  | 0, acc, st => some (acc, st)
  | n + 1, acc, v :: st => sx_spl n (v :: acc) st
  | _ + 1, _, [] => none
theorem sx_spl_ok : ∀ (n : Nat) (acc st av rest : List sx_V), sx_spl n acc st = some (av, rest) → st.drop n = rest ∧ av = (st.take n).reverse ++ acc ∧ (st.take n).length = n
  | 0, acc, st, av, rest, h => by
    cases h
    exact ⟨rfl, rfl, rfl⟩
  | n + 1, acc, [], av, rest, h => by cases h
  | n + 1, acc, v :: st, av, rest, h => by
    obtain ⟨h1, h2, h3⟩ := sx_spl_ok n (v :: acc) st av rest h
    refine ⟨h1, ?_, ?_⟩
    · rw [h2, List.take_succ_cons, List.reverse_cons, List.append_assoc]; rfl
    · rw [List.take_succ_cons, List.length_cons, h3]
def sx_le8 : List sx_V → Nat → Bool
  | [], _ => true
  | _ :: _, 0 => false
  | _ :: l, n + 1 => sx_le8 l n
theorem sx_le8_ok : ∀ (l : List sx_V) (n : Nat), sx_le8 l n = true → mx_cs (l.map sx_e) ≤ n
  | [], n, _ => Nat.zero_le _
  | v :: l, 0, h => by cases h
  | v :: l, n + 1, h => by
    have := sx_le8_ok l n h
    unfold mx_cs at this ⊢
    rw [List.map_cons, List.map_cons, List.sum_cons, sx_e_cat]
    omega
def sx_argsF : Nat → List sx_V → sx_L
  | _, [] => []
  | k, v :: vs => (k, v) :: sx_argsF (k + 1) vs
theorem sx_argsF_ed : ∀ (k : Nat) (av : List sx_V), lv_args k (av.map sx_e) = (sx_argsF k av).map sx_ed
  | _, [] => rfl
  | k, v :: vs => by
    rw [List.map_cons, lv_args, sx_e_cat, sx_argsF_ed]
    rfl
theorem sx_sl_len : ∀ av : List sx_V, (lg_sl (av.map sx_e)).length = av.length
  | [] => rfl
  | v :: vs => by
    have ih := sx_sl_len vs
    unfold lg_sl at ih ⊢
    rw [List.map_cons, List.flatMap_cons, List.length_append, ih, sx_e_cat]
    simp
    omega
def sx_rs (rt : Option FieldType) (z : Int) (rest : List sx_V) : List sx_V := match rt with
  | none => rest
  | _ => .inl z :: rest
def sx_vo (rt : Option FieldType) (z : Int) : Option Value := match rt with
  | none => none
  | _ => some (.int (Int32.ofInt z))
theorem sx_rs_ed (rt : Option FieldType) (z : Int) (rest : List sx_V) : (sx_vo rt z).toList ++ rest.map sx_e = (sx_rs rt z rest).map sx_e := by
  cases rt <;> rfl
def sx_ret (rt : Option FieldType) (st : List sx_V) (s : sx_S) (R : Int → sx_S → Prop) : Prop := match st with
  | [.inl v] => match rt with
    | some .int => R v s
    | some .boolean => (v = 0 ∨ v = 1) ∧ R v s
    | some .char => (0 ≤ v ∧ v ≤ 65535) ∧ R v s
    | some .byte => (-128 ≤ v ∧ v ≤ 127) ∧ R v s
    | _ => False
  | _ => False
def sx_rtv (rt : Option FieldType) (st : List sx_V) (s : sx_S) (R : Int → sx_S → Prop) : Prop := match st with
  | [] => match rt with
    | none => R 0 s
    | _ => False
  | _ => False
abbrev sx_Ca : Type := Nat → List sx_V → sx_S → (Int → sx_S → Prop) → Prop
def sx_rcv (b i : Nat) : Bool := cond (Nat.beq b 13) (mx_isS i) (match sx_ob i with
  | some o => Nat.beq o.1 (mx_rc b)
  | none => false)
def sx_inv (CALL : sx_Ca) (a b : Nat) (st : List sx_V) (s : sx_S) (k : List sx_V → sx_S → Prop) : Prop := match mx_pg[a]? with
  | none => False
  | some e1 => match sx_spl e1.2.1 [] st with
    | some (av, .inr (.inl i) :: rest) => cond (sx_rcv b i && sx_le8 rest 8 && Nat.ble (e1.2.1 + 1) e1.1.2.2.1) (CALL a (.inr (.inl i) :: av) s (fun z t => k (sx_rs e1.1.2.2.2 z rest) t)) False
    | _ => False
def sx_ins (CALL : sx_Ca) (a : Nat) (st : List sx_V) (s : sx_S) (k : List sx_V → sx_S → Prop) : Prop := match mx_pg[a]? with
  | none => False
  | some e1 => match sx_spl e1.2.1 [] st with
    | some (av, rest) => cond (sx_le8 rest 8 && Nat.ble e1.2.1 e1.1.2.2.1) (CALL a av s (fun z t => k (sx_rs e1.1.2.2.2 z rest) t)) False
    | none => False
def sx_cpy (A : Nat → Nat → Int) (p0 p1 sp dp n : Nat) : Nat → Nat → Int := fun p j => cond (Nat.beq p p1) (if dp ≤ j ∧ j < dp + n then A p0 (sp + (j - dp)) else A p1 j) (A p j)
def sx_nv (b : Nat) (st : List sx_V) (s : sx_S) (k : List sx_V → sx_S → Prop) : Prop := match b with
  | 7 => match st with
    | .inl n :: .inl dp :: .inr (.inl i1) :: .inl sp :: .inr (.inl i0) :: r => match sx_ar i0 with
      | some (0, n0) => match sx_ar i1 with
        | some (0, n1) => cond (sx_le8 r 8) ((0 ≤ sp ∧ 0 ≤ dp ∧ 0 ≤ n ∧ sp + n ≤ (n0 : Int) ∧ dp + n ≤ (n1 : Int)) ∧ k r (s.1, sx_cpy s.2.1 i0 i1 sp.toNat dp.toNat n.toNat, s.2.2)) False
        | _ => False
      | _ => False
    | _ => False
  | 8 => match st with
    | .inl y :: .inl x :: r => cond (sx_le8 r 8) ((sx_in x ∧ sx_in y) ∧ k (.inl (if x < y then y else x) :: r) s) False
    | _ => False
  | 9 => match st with
    | .inl y :: .inl x :: r => cond (sx_le8 r 8) ((sx_in x ∧ sx_in y) ∧ k (.inl (if y < x then y else x) :: r) s) False
    | _ => False
  | 10 => match st with
    | .inl y :: .inl x :: r => cond (sx_le8 r 8) ((sx_in x ∧ sx_in y ∧ 0 ≤ x ∧ x < y) ∧ k r s) False
    | _ => False
  | _ => False
/-- of the locals those that are wanted, in this order -/
def sx_pk : List Nat → sx_L → (sx_L → Prop) → Prop
  | [], _, k => k []
  | i :: is, ls, k => match sx_at ls i with
    | some (.inl x) => sx_pk is ls (fun l => k ((i, .inl x) :: l))
    | some (.inr x) => sx_pk is ls (fun l => k ((i, .inr x) :: l))
    | none => False
theorem sx_pk_ok {ls : sx_L} : ∀ (is : List Nat) (k : sx_L → Prop), sx_pk is ls k → ∃ l, k l ∧ ∀ i v, sx_at l i = some v → sx_at ls i = some v
  | [], k, h => ⟨[], h, fun i v q => by cases q⟩
  | i :: is, k, h => by
    unfold sx_pk at h
    split at h
    · rename_i x hx
      obtain ⟨l, h1, h2⟩ := sx_pk_ok is _ h
      refine ⟨_, h1, fun j v q => ?_⟩
      unfold sx_at at q
      cases hb : Nat.beq i j with
      | true =>
        rw [show Nat.beq (i, (Sum.inl x : sx_V)).1 j = true from hb] at q
        rw [← Nat.eq_of_beq_eq_true hb, hx]
        exact q
      | false =>
        rw [show Nat.beq (i, (Sum.inl x : sx_V)).1 j = false from hb] at q
        exact h2 j v q
    · rename_i x hx
      obtain ⟨l, h1, h2⟩ := sx_pk_ok is _ h
      refine ⟨_, h1, fun j v q => ?_⟩
      unfold sx_at at q
      cases hb : Nat.beq i j with
      | true =>
        rw [show Nat.beq (i, (Sum.inr x : sx_V)).1 j = true from hb] at q
        rw [← Nat.eq_of_beq_eq_true hb, hx]
        exact q
      | false =>
        rw [show Nat.beq (i, (Sum.inr x : sx_V)).1 j = false from hb] at q
        exact h2 j v q
    · exact h.elim
/-- where it stops, and which locals it keeps there -/
abbrev sx_Sp : Type := List (Nat × List Nat)
def sx_mem : sx_Sp → Nat → Option (List Nat)
  | [], _ => none
  | q :: l, i => cond (Nat.beq q.1 i) (some q.2) (sx_mem l i)
def sx_cut (stop : sx_Sp) (Q : Nat → sx_L → sx_S → Prop) (k : sx_K) : sx_K := fun pc ls st s => match sx_mem stop pc with
  | some is => match st with
    | [] => sx_pk is ls (fun l => Q pc l s)
    | _ => False
  | none => k pc ls st s
def sx_wp (wr : Bool) (sL : Nat) (sx : Nat → Int32) (e : mx_En) (CALL : sx_Ca) (stop : sx_Sp) (Q : Nat → sx_L → sx_S → Prop) (R : Int → sx_S → Prop) : Nat → sx_K
  | 0, _, _, _, _ => False
  | n + 1, pc, ls, st, s => match mx_lk e.2.2.2 pc with
    | none => False
    | some (ins, _, a, b, _) => match ins with
      | .ireturn => sx_ret e.1.2.2.2 st s R
      | .return_ => sx_rtv e.1.2.2.2 st s R
      | .invokevirtual _ => sx_inv CALL a b st s (fun st' t => sx_cut stop Q (sx_wp wr sL sx e CALL stop Q R n) (pc + 3) ls st' t)
      | .invokestatic _ => cond (Nat.ble 7 b) (sx_nv b st s (fun st' t => sx_cut stop Q (sx_wp wr sL sx e CALL stop Q R n) (pc + 3) ls st' t)) (sx_ins CALL a st s (fun st' t => sx_cut stop Q (sx_wp wr sL sx e CALL stop Q R n) (pc + 3) ls st' t))
      | _ => sx_st wr sL sx ins a b pc ls st s (sx_cut stop Q (sx_wp wr sL sx e CALL stop Q R n))
/-- from here it ends, and R holds of answer and state -/
def sx_E (sL : Nat) (sx : Nat → Int32) (d mi pc : Nat) (ls : sx_L) (st : List sx_V) (s : sx_S) (R : Int → sx_S → Prop) : Prop := s.2.2.2 ≤ 500000 → ∀ e, mx_pg[mi]? = some e → ∀ c n, ∃ z t, mx_ends sL sx mx_pg d mi pc (ls.map sx_ed) (st.map sx_e) (sx_hp s) c n (sx_vo e.1.2.2.2 z, sx_hp t, c + (t.2.2.2 - s.2.2.2), n + 8 * (t.2.2.2 - s.2.2.2)) ∧ s.2.2.2 ≤ t.2.2.2 ∧ t.2.2.2 ≤ 500000 ∧ R z t
theorem sx_E.more {sL : Nat} {sx : Nat → Int32} {d mi pc : Nat} {ls l : sx_L} {st : List sx_V} {s : sx_S} {R : Int → sx_S → Prop} (h : sx_E sL sx d mi pc l st s R) (hl : ∀ i v, sx_at l i = some v → sx_at ls i = some v) : sx_E sL sx d mi pc ls st s R := by
  intro hw e he c n
  obtain ⟨z, t, ⟨k, h1⟩, h2⟩ := h hw e he c n
  refine ⟨z, t, ⟨k, mx_run_sub k d mi pc _ _ _ _ c n _ ⟨sx_c1 _, sx_c1 _, fun i v q => ?_⟩ h1⟩, h2⟩
  rw [sx_at_ed] at q ⊢
  cases hq : sx_at l i with
  | none => rw [hq] at q; cases q
  | some x =>
    rw [hq] at q
    rw [hl i x hq]
    exact q
theorem sx_vo_ret {rt : Option FieldType} {st : List sx_V} {s : sx_S} {R : Int → sx_S → Prop} (h : sx_ret rt st s R) : ∃ v, st = [.inl v] ∧ mx_rok rt (Int32.ofInt v) = true ∧ sx_vo rt v = some (.int (Int32.ofInt v)) ∧ R v s := by
  unfold sx_ret at h
  split at h
  · rename_i v
    refine ⟨v, rfl, ?_⟩
    split at h
    · exact ⟨rfl, rfl, h⟩
    · refine ⟨?_, rfl, h.2⟩
      rcases h.1 with rfl | rfl <;> rfl
    · refine ⟨?_, rfl, h.2⟩
      obtain ⟨⟨h0, h1⟩, -⟩ := h
      have e : Int32.ofInt v = ((Int32.ofInt v).toUInt32 % 65536).toInt32 := by
        obtain ⟨k, rfl⟩ := Int.eq_ofNat_of_zero_le h0
        have hk : k ≤ 65535 := by omega
        apply Int32.toInt_inj.mp
        rw [sx_toInt ⟨by omega, by omega⟩]
        have e1 : ((Int32.ofInt (k : Int)).toUInt32 % 65536).toNat = k := by
          rw [UInt32.toNat_mod, Int32.toNat_toUInt32_of_le (by rw [sx_z0, sx_le sx_in0 ⟨by omega, by omega⟩]; omega), sx_nat (by omega) (by omega)]
          show ((k : Int).toNat) % 65536 = k
          simp; omega
        rw [show ((Int32.ofInt (k : Int)).toUInt32 % 65536) = UInt32.ofNat k by
          apply UInt32.toNat_inj.mp
          rw [e1, UInt32.toNat_ofNat_of_lt' (by show k < 4294967296; omega)]]
        rw [show (UInt32.ofNat k).toInt32 = Int32.ofNat k from rfl, Int32.toInt_ofNat_of_lt (by omega)]
      show (Int32.ofInt v == ((Int32.ofInt v).toUInt32 % 65536).toInt32) = true
      rw [← e]
      simp
    · refine ⟨?_, rfl, h.2⟩
      obtain ⟨⟨h0, h1⟩, -⟩ := h
      show (Int32.ofInt v == (Int32.ofInt v).toInt8.toInt32) = true
      rw [Int32.toInt8_ofInt, sx_i8 (by rw [Bool.and_eq_true]; exact ⟨decide_eq_true h0, decide_eq_true h1⟩)]
      simp
    · exact h.elim
  · exact h.elim
section SXW
variable {wr : Bool} {sL : Nat} {sx : Nat → Int32} {d mi : Nat} {e : mx_En} {CALL : sx_Ca} {stop : sx_Sp} {Q : Nat → sx_L → sx_S → Prop} {R : Int → sx_S → Prop}
/-- behind what took w on -/
theorem sx_E_then {pc pc' : Nat} {ls ls' : sx_L} {st st' : List sx_V} {s t : sx_S} (he : mx_pg[mi]? = some e) (hw : s.2.2.2 ≤ t.2.2.2) (ht : t.2.2.2 ≤ 500000) (h : ∀ c n r, mx_ends sL sx mx_pg d mi pc' (ls'.map sx_ed) (st'.map sx_e) (sx_hp t) (c + (t.2.2.2 - s.2.2.2)) (n + 8 * (t.2.2.2 - s.2.2.2)) r → mx_ends sL sx mx_pg d mi pc (ls.map sx_ed) (st.map sx_e) (sx_hp s) c n r) (hE : sx_E sL sx d mi pc' ls' st' t R) : sx_E sL sx d mi pc ls st s R := by
  intro _ e' he' c n
  obtain ⟨z, t', h1, h2, h3, h4⟩ := hE ht e' he' (c + (t.2.2.2 - s.2.2.2)) (n + 8 * (t.2.2.2 - s.2.2.2))
  refine ⟨z, t', ?_, by omega, h3, h4⟩
  have := h c n _ h1
  rw [show c + (t.2.2.2 - s.2.2.2) + (t'.2.2.2 - t.2.2.2) = c + (t'.2.2.2 - s.2.2.2) by omega, show n + 8 * (t.2.2.2 - s.2.2.2) + 8 * (t'.2.2.2 - t.2.2.2) = n + 8 * (t'.2.2.2 - s.2.2.2) by omega] at this
  exact this
set_option maxHeartbeats 1000000 in
theorem sx_sound (hsL : sL ≤ 3072) (he : mx_pg[mi]? = some e) (hC : ∀ a av s K, CALL a av s K → sx_E sL sx (d + 1) a 0 (sx_argsF 0 av) [] s K) (hQ : ∀ pc ls s, Q pc ls s → sx_E sL sx (d + 2) mi pc ls [] s R) : ∀ (n pc : Nat) (ls : sx_L) (st : List sx_V) (s : sx_S), sx_wp wr sL sx e CALL stop Q R n pc ls st s → sx_E sL sx (d + 2) mi pc ls st s R := by
  intro n
  induction n with
  | zero => intro pc ls st s h; exact h.elim
  | succ n ih =>
    intro pc ls st s h hw
    have cut : ∀ (pc : Nat) (ls : sx_L) (st : List sx_V) (s : sx_S), sx_cut stop Q (sx_wp wr sL sx e CALL stop Q R n) pc ls st s → sx_E sL sx (d + 2) mi pc ls st s R := by
      intro pc ls st s h
      unfold sx_cut at h
      split at h
      · split at h
        · obtain ⟨l, h1, h2⟩ := sx_pk_ok _ _ h
          refine sx_E.more (hQ _ _ _ h1) h2
        · exact h.elim
      · exact ih _ _ _ _ h
    unfold sx_wp at h
    cases hq : mx_lk e.2.2.2 pc with
    | none => rw [hq] at h; exact h.elim
    | some q =>
      rw [hq] at h
      dsimp only at h
      obtain ⟨ins, len, a, b, w⟩ := q
      dsimp only at h
      split at h
      · -- ireturn
        obtain ⟨v, rfl, h1, h2, h3⟩ := sx_vo_ret h
        intro e' he' c n'
        cases he.symm.trans he'
        refine ⟨v, s, ?_, Nat.le_refl _, hw, h3⟩
        rw [h2, Nat.sub_self]
        exact mx_ends_iret he hq h1
      · -- return
        intro e' he' c n'
        cases he.symm.trans he'
        unfold sx_rtv at h
        split at h
        · split at h
          · rename_i hrt
            refine ⟨0, s, ?_, Nat.le_refl _, hw, h⟩
            rw [hrt, Nat.sub_self]
            exact mx_ends_vret he hq (by rw [hrt]; rfl)
          · exact h.elim
        · exact h.elim
      · -- invokevirtual
        unfold sx_inv at h
        split at h
        · exact h.elim
        rename_i e1 ha
        split at h
        · rename_i av i rest hsp
          obtain ⟨s1, s2, s3⟩ := sx_spl_ok _ _ _ _ _ hsp
          rw [List.append_nil] at s2
          by_cases hb : (sx_rcv b i && sx_le8 rest 8 && Nat.ble (e1.2.1 + 1) e1.1.2.2.1) = true
          · rw [hb] at h
            simp only [Bool.and_eq_true] at hb
            obtain ⟨⟨b1, b2⟩, b3⟩ := hb
            intro e' he' c n'
            cases he.symm.trans he'
            obtain ⟨z, t, c1, c2, c3, c4⟩ := hC _ _ _ _ h hw e1 ha 0 0
            have hE := cut _ _ _ _ c4
            have hisc : mx_isc (sx_hp s) i b = true := by
              unfold sx_rcv at b1
              unfold mx_isc
              cases q13 : Nat.beq b 13 with
              | true =>
                rw [q13] at b1
                dsimp only [cond] at b1 ⊢
                exact b1
              | false =>
                rw [q13] at b1
                dsimp only [cond] at b1 ⊢
                split at b1
                · rename_i o ho
                  rw [sx_hp_at (sx_ob_at (s := s) ho).1]
                  exact b1
                · cases b1
            have hbb : (mx_isc (sx_hp s) i b && Nat.ble (mx_cs (rest.map sx_e)) 8 && Nat.ble (lg_sl (.ref i :: (((st.map sx_e).take e1.2.1).reverse))).length e1.1.2.2.1 && Nat.beq ((st.map sx_e).take e1.2.1).length e1.2.1) = true := by
              rw [hisc, Nat.ble_eq.mpr (sx_le8_ok _ _ b2)]
              have e3 : (lg_sl (.ref i :: (((st.map sx_e).take e1.2.1).reverse))).length = e1.2.1 + 1 := by
                have := sx_sl_len ((.inr (.inl i) : sx_V) :: (st.take e1.2.1).reverse)
                rw [List.length_cons, List.length_reverse, s3] at this
                rw [← this, ← List.map_take, ← List.map_reverse]
                rfl
              rw [e3, b3, ← List.map_take, List.length_map, s3, Nat.beq_refl]
              rfl
            have hst : (st.map sx_e).drop e1.2.1 = .ref i :: rest.map sx_e := by
              rw [← List.map_drop, s1]
              rfl
            have c1' : mx_ends sL sx mx_pg (d + 1) a 0 (lv_args 0 (.ref i :: (((st.map sx_e).take e1.2.1).reverse))) [] (sx_hp s) 0 0 (sx_vo e1.1.2.2.2 z, sx_hp t, 0 + (t.2.2.2 - s.2.2.2), 0 + 8 * (t.2.2.2 - s.2.2.2)) := by
              rw [← List.map_take, ← List.map_reverse, ← s2]
              exact (sx_argsF_ed 0 (.inr (.inl i) :: av)).symm ▸ c1
            refine sx_E_then (t := t) (ls := ls) (ls' := ls) (st' := sx_rs e1.1.2.2.2 z rest) (pc' := pc + 3) he c2 c3 (fun c n r hr => ?_) hE hw _ he c n'
            refine mx_ends_V he hq ha hst hbb c1' ?_
            rw [sx_rs_ed, Nat.zero_add, Nat.zero_add]
            exact hr
          · rw [Bool.not_eq_true] at hb
            rw [hb] at h
            exact h.elim
        · exact h.elim
      · -- invokestatic
        cases h7 : Nat.ble 7 b with
        | true =>
          rw [h7] at h
          dsimp only [cond] at h
          have fin : ∀ (pc' : Nat) (st' : List sx_V) (t : sx_S), t.2.2.2 = s.2.2.2 → mx_nat b (pc + 3) (ls.map sx_ed) (st.map sx_e) (sx_hp s) = some (pc', ls.map sx_ed, st'.map sx_e, sx_hp t, 0, 0) → sx_cut stop Q (sx_wp wr sL sx e CALL stop Q R n) pc' ls st' t → sx_E sL sx (d + 2) mi pc ls st s R := by
            intro pc' st' t ht hn hk
            refine sx_E_then (t := t) he (Nat.le_of_eq ht.symm) (by omega) (fun c n r hr => ?_) (cut _ _ _ _ hk)
            refine mx_ends_N he hq h7 hn ?_
            rw [ht, Nat.sub_self] at hr
            exact hr
          unfold sx_nv at h
          split at h
          · split at h
            · rename_i nn dp i1 sp i0 r
              split at h
              · rename_i n0 h0
                split at h
                · rename_i n1 h1
                  cases h8 : sx_le8 r 8 with
                  | false => rw [h8] at h; exact h.elim
                  | true =>
                    rw [h8] at h
                    obtain ⟨⟨g1, g2, g3, g4, g5⟩, hk⟩ := h
                    refine fin (pc + 3) r (s.1, sx_cpy s.2.1 i0 i1 sp.toNat dp.toNat nn.toNat, s.2.2) rfl ?_ hk hw
                    have l0 := (sx_ar_len h0).1
                    have l1 := (sx_ar_len h1).1
                    dsimp only at l0 l1
                    have hd : (decide (¬ Int32.ofInt sp < 0) && decide (¬ Int32.ofInt dp < 0) && decide (¬ Int32.ofInt nn < 0) && Nat.ble ((Int32.ofInt sp).toNatClampNeg + (Int32.ofInt nn).toNatClampNeg) n0 && Nat.ble ((Int32.ofInt dp).toNatClampNeg + (Int32.ofInt nn).toNatClampNeg) n1 && Nat.ble (mx_cs (r.map sx_e)) 8) = true := by
                      have z1 : ∀ x : Int, 0 ≤ x → x ≤ 1000000 → ¬ Int32.ofInt x < 0 := fun x q1 q2 q3 => by
                        rw [sx_z0, sx_lt ⟨by omega, by omega⟩ sx_in0] at q3
                        omega
                      rw [decide_eq_true (z1 sp g1 (by omega)), decide_eq_true (z1 dp g2 (by omega)), decide_eq_true (z1 nn g3 (by omega)), sx_nat g1 (by omega), sx_nat g2 (by omega), sx_nat g3 (by omega), Nat.ble_eq.mpr (show sp.toNat + nn.toNat ≤ n0 by omega), Nat.ble_eq.mpr (show dp.toNat + nn.toNat ≤ n1 by omega), Nat.ble_eq.mpr (sx_le8_ok _ _ h8)]
                      rfl
                    show mx_a_cpy (pc + 3) (ls.map sx_ed) (.int (Int32.ofInt nn) :: .int (Int32.ofInt dp) :: .ref i1 :: .int (Int32.ofInt sp) :: .ref i0 :: r.map sx_e) (sx_hp s) = _
                    have a0 := sx_hp_at (s := s) (sx_ar_at h0).1
                    have a1 := sx_hp_at (s := s) (sx_ar_at h1).1
                    unfold mx_a_cpy
                    dsimp only
                    rw [a0, a1]
                    show cond (decide (¬ Int32.ofInt sp < 0) && decide (¬ Int32.ofInt dp < 0) && decide (¬ Int32.ofInt nn < 0) && Nat.ble ((Int32.ofInt sp).toNatClampNeg + (Int32.ofInt nn).toNatClampNeg) n0 && Nat.ble ((Int32.ofInt dp).toNatClampNeg + (Int32.ofInt nn).toNatClampNeg) n1 && Nat.ble (mx_cs (r.map sx_e)) 8) (some (pc + 3, ls.map sx_ed, r.map sx_e, (sx_hp s).set i1 (.inl (0, n1, .inl (va_cpy (fun j => Int32.ofInt (s.2.1 i0 j)) (fun j => Int32.ofInt (s.2.1 i1 j)) (Int32.ofInt sp).toNatClampNeg (Int32.ofInt dp).toNatClampNeg (Int32.ofInt nn).toNatClampNeg))), 0, 0)) none = _
                    rw [hd, sx_nat g1 (by omega), sx_nat g2 (by omega), sx_nat g3 (by omega)]
                    dsimp only [cond]
                    rw [sx_hp_ext (s := s) (t := (s.1, sx_cpy s.2.1 i0 i1 sp.toNat dp.toNat nn.toNat, s.2.2)) rfl (fun x hx => ?_) (sx_ar_at h1).2 (fun q hq => ⟨rfl, ?_⟩) rfl]
                    · cases (sx_ar_at h1).1.symm.trans hx
                      have ef : va_cpy (fun j => Int32.ofInt (s.2.1 i0 j)) (fun j => Int32.ofInt (s.2.1 i1 j)) sp.toNat dp.toNat nn.toNat = fun j => Int32.ofInt (sx_cpy s.2.1 i0 i1 sp.toNat dp.toNat nn.toNat i1 j) := by
                        funext j
                        unfold va_cpy sx_cpy
                        rw [Nat.beq_refl]
                        dsimp only [cond]
                        split <;> rfl
                      rw [ef]
                      rfl
                    · funext j
                      show sx_cpy s.2.1 i0 i1 sp.toNat dp.toNat nn.toNat q j = s.2.1 q j
                      unfold sx_cpy
                      have : Nat.beq q i1 = false := by rw [← Bool.not_eq_true]; exact fun z => hq (Nat.eq_of_beq_eq_true z)
                      rw [this]; rfl
                · exact h.elim
              · exact h.elim
            · exact h.elim
          · split at h
            · rename_i y x r
              cases h8 : sx_le8 r 8 with
              | false => rw [h8] at h; exact h.elim
              | true =>
                rw [h8] at h
                obtain ⟨⟨hx, hy⟩, hk⟩ := h
                refine fin (pc + 3) (.inl (if x < y then y else x) :: r) s rfl ?_ hk hw
                show cond (Nat.ble (mx_cs (r.map sx_e)) 8) (some (pc + 3, ls.map sx_ed, Value.int (if Int32.ofInt x < Int32.ofInt y then Int32.ofInt y else Int32.ofInt x) :: r.map sx_e, sx_hp s, 0, 0)) none = _
                rw [Nat.ble_eq.mpr (sx_le8_ok _ _ h8)]
                dsimp only [cond]
                by_cases q : x < y
                · rw [if_pos ((sx_lt hx hy).mpr q), if_pos q]; rfl
                · rw [if_neg (fun z => q ((sx_lt hx hy).mp z)), if_neg q]; rfl
            · exact h.elim
          · split at h
            · rename_i y x r
              cases h8 : sx_le8 r 8 with
              | false => rw [h8] at h; exact h.elim
              | true =>
                rw [h8] at h
                obtain ⟨⟨hx, hy⟩, hk⟩ := h
                refine fin (pc + 3) (.inl (if y < x then y else x) :: r) s rfl ?_ hk hw
                show cond (Nat.ble (mx_cs (r.map sx_e)) 8) (some (pc + 3, ls.map sx_ed, Value.int (if Int32.ofInt y < Int32.ofInt x then Int32.ofInt y else Int32.ofInt x) :: r.map sx_e, sx_hp s, 0, 0)) none = _
                rw [Nat.ble_eq.mpr (sx_le8_ok _ _ h8)]
                dsimp only [cond]
                by_cases q : y < x
                · rw [if_pos ((sx_lt hy hx).mpr q), if_pos q]; rfl
                · rw [if_neg (fun z => q ((sx_lt hy hx).mp z)), if_neg q]; rfl
            · exact h.elim
          · split at h
            · rename_i y x r
              cases h8 : sx_le8 r 8 with
              | false => rw [h8] at h; exact h.elim
              | true =>
                rw [h8] at h
                obtain ⟨⟨hx, hy, g0, g1⟩, hk⟩ := h
                refine fin (pc + 3) r s rfl ?_ hk hw
                show cond (Nat.ble (mx_cs (r.map sx_e)) 8 && decide (0 ≤ Int32.ofInt x) && decide (Int32.ofInt x < Int32.ofInt y)) (some (pc + 3, ls.map sx_ed, r.map sx_e, sx_hp s, 0, 0)) none = _
                rw [Nat.ble_eq.mpr (sx_le8_ok _ _ h8), decide_eq_true ((sx_lt hx hy).mpr g1), decide_eq_true (by rw [sx_z0]; exact (sx_le sx_in0 hx).mpr g0)]
                rfl
            · exact h.elim
          · exact h.elim
        | false =>
          rw [h7] at h
          dsimp only [cond] at h
          unfold sx_ins at h
          split at h
          · exact h.elim
          rename_i e1 ha
          split at h
          · rename_i av rest hsp
            obtain ⟨s1, s2, s3⟩ := sx_spl_ok _ _ _ _ _ hsp
            rw [List.append_nil] at s2
            by_cases hb : (sx_le8 rest 8 && Nat.ble e1.2.1 e1.1.2.2.1) = true
            · rw [hb] at h
              simp only [Bool.and_eq_true] at hb
              obtain ⟨b2, b3⟩ := hb
              intro e' he' c n'
              cases he.symm.trans he'
              obtain ⟨z, t, c1, c2, c3, c4⟩ := hC _ _ _ _ h hw e1 ha 0 0
              have hE := cut _ _ _ _ c4
              have hst : (st.map sx_e).drop e1.2.1 = rest.map sx_e := by
                rw [← List.map_drop, s1]
              have hbb : (Nat.ble (mx_cs ((st.map sx_e).drop e1.2.1)) 8 && Nat.ble (lg_sl (((st.map sx_e).take e1.2.1).reverse)).length e1.1.2.2.1 && Nat.beq ((st.map sx_e).take e1.2.1).length e1.2.1) = true := by
                rw [hst, Nat.ble_eq.mpr (sx_le8_ok _ _ b2), ← List.map_take, ← List.map_reverse, sx_sl_len, List.length_reverse, s3, b3, List.length_map, s3, Nat.beq_refl]
                rfl
              have c1' : mx_ends sL sx mx_pg (d + 1) a 0 (lv_args 0 (((st.map sx_e).take e1.2.1).reverse)) [] (sx_hp s) 0 0 (sx_vo e1.1.2.2.2 z, sx_hp t, 0 + (t.2.2.2 - s.2.2.2), 0 + 8 * (t.2.2.2 - s.2.2.2)) := by
                rw [← List.map_take, ← List.map_reverse, ← s2]
                exact (sx_argsF_ed 0 av).symm ▸ c1
              refine sx_E_then (t := t) (ls := ls) (ls' := ls) (st' := sx_rs e1.1.2.2.2 z rest) (pc' := pc + 3) he c2 c3 (fun c n r hr => ?_) hE hw _ he c n'
              refine mx_ends_S he hq h7 ha hbb c1' ?_
              rw [hst, sx_rs_ed, Nat.zero_add, Nat.zero_add]
              exact hr
            · rw [Bool.not_eq_true] at hb
              rw [hb] at h
              exact h.elim
          · exact h.elim
      · -- a step
        obtain ⟨pc', ls', st', t, h1, h2, h3⟩ := sx_st_ok hsL hw h
        have ht : t.2.2.2 ≤ 500000 := by omega
        refine sx_E_then he h2.1 ht (fun c n r hr => ?_) (cut _ _ _ _ h3) hw
        exact mx_ends_step he hq h1 hr
end SXW
