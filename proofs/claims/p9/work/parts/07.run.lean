/-! ===== THE EVALUATOR'S RUN, with calls; the machine does what it does ===== -/
/-- a program: of each method what it is, its parameters, where its words stand (code, initialised, of an object or static, selects), its rows -/
abbrev mx_En : Type := mx_Me × Nat × (Nat × Nat × Nat × Nat) × List (Nat × mx_In)
def mx_rok (t : Option FieldType) (v : Int32) : Bool := match t with
  | some .int => true
  | some .boolean => v == 0 || v == 1
  | some .char => v == (v.toUInt32 % 65536).toInt32
  | some .byte => v == v.toInt8.toInt32
  | _ => false
def mx_rv (t : Option FieldType) : Bool := match t with
  | none => true
  | _ => false
/-- the receiver: 13 a String constant, from 20 on a nest mate's call -/
def mx_rc (b : Nat) : Nat := cond (Nat.ble 20 b) (b - 20) b
def mx_isc (hp : List va_E) (i b : Nat) : Bool := cond (Nat.beq b 13) (mx_isS i) (match hp[i]? with
  | some (.inr (cj, _)) => Nat.beq cj (mx_rc b)
  | _ => false)
def mx_ckv (M : mx_Me) (index b w w2 : Nat) (y : MethodName) : Bool := cond (Nat.beq b 13) (mx_has w (.methodLink M.1.cls index y) && mx_has w2 (.selects "java/lang/String" y y)) (Nat.blt (mx_rc b) 13 && mx_has w2 (.selects (mx_c (mx_rc b)).1 y y) && cond (Nat.ble 20 b) (match mx_nest[w]? with
  | some t => decide (t.1 = M.1.cls) && Nat.beq t.2.1 index && decide (t.2.2.1 = y)
  | none => false) (mx_has w (.methodLink M.1.cls index y)))
def mx_run (sL : Nat) (sx : Nat → Int32) (pg : List mx_En) : Nat → Nat → Nat → Nat → List (Nat × Value) → List Value → List va_E → Nat → Nat → Option (Option Value × List va_E × Nat × Nat)
  | 0, _, _, _, _, _, _, _, _ => none
  | n + 1, d, mi, pc, ls, st, hp, c, s => match pg[mi]? with
    | none => none
    | some e => match mx_lk e.2.2.2 pc with
      | none => none
      | some q => match q.1 with
        | .ireturn => match st with
          | [.int v] => cond (mx_rok e.1.2.2.2 v) (some (some (.int v), hp, c, s)) none
          | _ => none
        | .return_ => match st with
          | [] => cond (mx_rv e.1.2.2.2) (some (none, hp, c, s)) none
          | _ => none
        | .invokevirtual _ => match d with
          | 0 => none
          | d1 + 1 => match pg[q.2.2.1]? with
            | none => none
            | some e1 => match st.drop e1.2.1 with
              | .ref i :: rest => cond (mx_isc hp i q.2.2.2.1 && Nat.ble (mx_cs rest) 8 && Nat.ble (lg_sl (.ref i :: (st.take e1.2.1).reverse)).length e1.1.2.2.1 && Nat.beq (st.take e1.2.1).length e1.2.1)
                (match mx_run sL sx pg n d1 q.2.2.1 0 (lv_args 0 (.ref i :: (st.take e1.2.1).reverse)) [] hp 0 0 with
                | none => none
                | some r => mx_run sL sx pg n (d1 + 1) mi (pc + 3) ls (r.1.toList ++ rest) r.2.1 (c + r.2.2.1) (s + r.2.2.2)) none
              | _ => none
        | .invokespecial _ => match d with
          | 0 => none
          | d1 + 1 => cond (Nat.beq q.2.2.2.1 1) (match st with
            | .ref _ :: rest => cond (Nat.ble (mx_cs rest) 8) (mx_run sL sx pg n (d1 + 1) mi (pc + 3) ls rest hp c s) none
            | _ => none) (match pg[q.2.2.1]? with
            | none => none
            | some e1 => match st.drop e1.2.1 with
              | .ref i :: rest => cond (Nat.ble (mx_cs rest) 8 && Nat.ble (lg_sl (.ref i :: (st.take e1.2.1).reverse)).length e1.1.2.2.1 && Nat.beq (st.take e1.2.1).length e1.2.1)
                (match mx_run sL sx pg n d1 q.2.2.1 0 (lv_args 0 (.ref i :: (st.take e1.2.1).reverse)) [] hp 0 0 with
                | none => none
                | some r => mx_run sL sx pg n (d1 + 1) mi (pc + 3) ls (r.1.toList ++ rest) r.2.1 (c + r.2.2.1) (s + r.2.2.2)) none
              | _ => none)
        | .invokestatic _ => match d with
          | 0 => none
          | d1 + 1 => cond (Nat.ble 7 q.2.2.2.1) (match cond (Nat.beq d1 0) none (mx_nat q.2.2.2.1 (pc + 3) ls st hp) with
            | none => none
            | some f => mx_run sL sx pg n (d1 + 1) mi f.1 f.2.1 f.2.2.1 f.2.2.2.1 (c + f.2.2.2.2.1) (s + f.2.2.2.2.2)) (match pg[q.2.2.1]? with
            | none => none
            | some e1 => cond (Nat.ble (mx_cs (st.drop e1.2.1)) 8 && Nat.ble (lg_sl (st.take e1.2.1).reverse).length e1.1.2.2.1 && Nat.beq (st.take e1.2.1).length e1.2.1)
                (match mx_run sL sx pg n d1 q.2.2.1 0 (lv_args 0 (st.take e1.2.1).reverse) [] hp 0 0 with
                | none => none
                | some r => mx_run sL sx pg n (d1 + 1) mi (pc + 3) ls (r.1.toList ++ st.drop e1.2.1) r.2.1 (c + r.2.2.1) (s + r.2.2.2)) none)
        | _ => match mx_step sL sx q pc ls st hp with
          | none => none
          | some f => mx_run sL sx pg n d mi f.1 f.2.1 f.2.2.1 f.2.2.2.1 (c + f.2.2.2.2.1) (s + f.2.2.2.2.2)
/-- what is checked of a row -/
def mx_ck2 (pg : List mx_En) (M : mx_Me) (pc : Nat) (q : mx_In) : Bool := match q.1 with
  | .ireturn => Nat.beq q.2.1 1
  | .return_ => Nat.beq q.2.1 1
  | .invokevirtual index => match pg[q.2.2.1]? with
    | none => false
    | some e1 => Nat.beq q.2.1 3 && mx_has e1.2.2.1.2.2.1 (.instanceMethod e1.1.1) && mx_ckv M index q.2.2.2.1 q.2.2.2.2 e1.2.2.1.2.2.2 e1.1.1 && Nat.blt (q.2.2.1 + 1) pg.length
  | .invokespecial index => cond (Nat.beq q.2.2.2.1 1) (Nat.beq q.2.1 3 && mx_has q.2.2.2.2 (.methodLink M.1.cls index objectInit)) (match pg[q.2.2.1]? with
    | none => false
    | some e1 => Nat.beq q.2.1 3 && mx_has q.2.2.2.2 (.methodLink M.1.cls index e1.1.1) && mx_has e1.2.2.1.2.2.1 (.instanceMethod e1.1.1) && decide (e1.1.1.name = "<init>") && mx_rv e1.1.2.2.2 && Nat.blt (q.2.2.1 + 1) pg.length)
  | .invokestatic index => cond (Nat.ble 7 q.2.2.2.1) (Nat.beq q.2.1 3 && mx_ckn M index q.2) (match pg[q.2.2.1]? with
    | none => false
    | some e1 => Nat.beq q.2.1 3 && mx_has q.2.2.2.2 (.methodLink M.1.cls index e1.1.1) && mx_has e1.2.2.1.2.2.1 (.static e1.1.1) && Nat.blt (q.2.2.1 + 1) pg.length)
  | _ => mx_ck1 M pc q
/-- the last method is the law: nobody calls it -/
def mx_pok (pg : List mx_En) : Prop := (∀ (k : Nat) (e : mx_En), pg[k]? = some e → (k + 1 < pg.length → mx_me e.1 e.2.1 ∧ e.1.2.2.1 ≤ 21) ∧ ∀ x ∈ e.2.2.2, decode e.1.2.1 x.1 = .ok (x.2.1, x.2.2.1) ∧ mx_ck2 pg e.1 x.1 x.2 = true) ∧ (Cond.instanceMethod objectInit ∈ mx_tb ∧ Cond.code objectInit ⟨#[0xb1]⟩ 1 none ∈ mx_tb)
theorem mx_split {st : List Value} {n : Nat} {i : Nat} {rest : List Value} (h : st.drop n = .ref i :: rest) : st = ((st.take n).reverse).reverse ++ .ref i :: rest := by
  rw [List.reverse_reverse, ← h, List.take_append_drop]
theorem mx_rv_ok {t : Option FieldType} (h : mx_rv t = true) : t = none := by
  unfold mx_rv at h
  split at h
  · rfl
  · cases h
theorem mx_rok_ok {t : Option FieldType} {v : Int32} (h : mx_rok t v = true) : t = some .int ∨ ∃ ty, t = some ty ∧ narrow ty (.int v) = .int v := by
  unfold mx_rok at h
  split at h
  · exact Or.inl rfl
  · have hx : v = 0 ∨ v = 1 := by simpa using h
    exact Or.inr ⟨_, rfl, by rcases hx with rfl | rfl <;> rfl⟩
  · have hx : v = (v.toUInt32 % 65536).toInt32 := by simpa using h
    refine Or.inr ⟨_, rfl, ?_⟩
    show Value.int _ = Value.int _
    exact congrArg Value.int hx.symm
  · have hx : v = v.toInt8.toInt32 := by simpa using h
    refine Or.inr ⟨_, rfl, ?_⟩
    show Value.int _ = Value.int _
    exact congrArg Value.int hx.symm
  · cases h
set_option maxHeartbeats 4000000 in
theorem mx_sound {l : Launch} {E : mx_Ev} {pg : List mx_En} {sL : Nat} {sx : Nat → Int32} (hsL : sL = E.2.2.2.2.2.2.1) (hsx : sx = E.2.2.2.2.2.2.2) (hE : mx_ok E) (hpg : mx_pok pg) : ∀ (n d mi pc : Nat) (ls : List (Nat × Value)) (st : List Value) (hp : List va_E) (c s : Nat) (v : Option Value) (hp' : List va_E) (c' s' : Nat) (e : mx_En), pg[mi]? = some e → mx_run sL sx pg n d mi pc ls st hp c s = some (v, hp', c', s') →
    c ≤ c' ∧ s ≤ s' ∧ ∀ (R : Room) (mc ms : Nat) (K : Option Value → List va_E → Prop), c' ≤ mc → s' ≤ ms → mc ≤ R.cells → ms ≤ R.slots → d ≤ R.frames → d * 40 ≤ R.locals → K v hp' → mx_W l E e.1 R mc ms K c s pc ls st hp := by
  intro n
  induction n with
  | zero =>
    intro d mi pc ls st hp c s v hp' c' s' e he h
    cases h
  | succ n ih =>
    intro d mi pc ls st hp c s v hp' c' s' e he h
    have callee : ∀ (d1 a : Nat) (e1 : mx_En) (av : List Value) (hp0 : List va_E) (r : Option Value × List va_E × Nat × Nat), pg[a]? = some e1 → a + 1 < pg.length → (lg_sl av).length ≤ e1.1.2.2.1 → mx_run sL sx pg n d1 a 0 (lv_args 0 av) [] hp0 0 0 = some r →
        mx_M l E e1.1 { frames := d1, cells := r.2.2.1, slots := r.2.2.2, locals := d1 * 40 } av hp0 (fun v2 hp2 => v2 = r.1 ∧ hp2 = r.2.1) := by
      intro d1 a e1 av hp0 r ha hal hlen hr
      obtain ⟨v1, hp1, c1, s1⟩ := r
      have hme := (hpg.1 a e1 ha).1 hal
      obtain ⟨-, -, hW⟩ := ih d1 a 0 _ [] hp0 0 0 v1 hp1 c1 s1 e1 ha hr
      exact mx_intro hE hme.1 hlen (hW _ c1 s1 _ (Nat.le_refl _) (Nat.le_refl _) (Nat.le_refl _) (Nat.le_refl _) (Nat.le_refl _) (Nat.le_refl _) ⟨rfl, rfl⟩)
    unfold mx_run at h
    rw [he] at h
    dsimp only at h
    split at h
    · cases h
    rename_i q hq
    obtain ⟨hd, hck⟩ := (hpg.1 mi e he).2 (pc, q) (mx_lk_mem hq)
    dsimp only at hd hck
    unfold mx_ck2 at hck
    obtain ⟨ins, len, a, b, w⟩ := q
    dsimp only at h hd hck
    split at h
    · -- ireturn
      split at h
      · rename_i x
        cases hr : mx_rok e.1.2.2.2 x with
        | false => rw [hr] at h; cases h
        | true =>
          rw [hr] at h
          cases h
          refine ⟨Nat.le_refl _, Nat.le_refl _, fun R mc ms K h1 h2 h3 h4 h5 h6 hK => ?_⟩
          exact mx_ireturn (by rw [hd, Nat.eq_of_beq_eq_true hck]) (mx_rok_ok hr) h1 h2 hK
      · cases h
    · -- return
      split at h
      · cases hr : mx_rv e.1.2.2.2 with
        | false => rw [hr] at h; cases h
        | true =>
          rw [hr] at h
          cases h
          refine ⟨Nat.le_refl _, Nat.le_refl _, fun R mc ms K h1 h2 h3 h4 h5 h6 hK => ?_⟩
          exact mx_return (by rw [hd, Nat.eq_of_beq_eq_true hck]) (mx_rv_ok hr) h1 h2 hK
      · cases h
    · -- invokevirtual
      split at h
      · cases h
      rename_i d1
      split at h
      · cases h
      rename_i e1 ha
      rw [ha] at hck
      dsimp only at hck
      simp only [Bool.and_eq_true] at hck
      obtain ⟨⟨⟨k1, k3⟩, kv⟩, kl⟩ := hck
      split at h
      · rename_i i rest hst
        by_cases hb : (mx_isc hp i b && Nat.ble (mx_cs rest) 8 && Nat.ble (lg_sl (.ref i :: (st.take e1.2.1).reverse)).length e1.1.2.2.1 && Nat.beq (st.take e1.2.1).length e1.2.1) = true
        · rw [hb] at h
          simp only [Bool.and_eq_true] at hb
          obtain ⟨⟨⟨b1, b2⟩, b3⟩, b4⟩ := hb
          dsimp only [cond] at h
          split at h
          · cases h
          rename_i r hr
          have hM := callee d1 a e1 _ hp r ha (Nat.ble_eq.mp kl) (Nat.ble_eq.mp b3) hr
          obtain ⟨i1, i2, i3⟩ := ih (d1 + 1) mi (pc + 3) ls (r.1.toList ++ rest) r.2.1 _ _ v hp' c' s' e he h
          refine ⟨by omega, by omega, fun R mc ms K h1 h2 h3 h4 h5 h6 hK => ?_⟩
          have hme := (hpg.1 a e1 ha).1 (Nat.ble_eq.mp kl)
          have hdv := hd
          rw [Nat.eq_of_beq_eq_true k1] at hdv
          have hln : ((st.take e1.2.1).reverse).length = e1.2.1 := by rw [List.length_reverse]; exact Nat.eq_of_beq_eq_true b4
          have hRR : ({ frames := d1, cells := r.2.2.1, slots := r.2.2.2, locals := d1 * 40 } : Room).frames + 1 ≤ R.frames ∧ 8 + (e1.1.2.2.1 + 11) + ({ frames := d1, cells := r.2.2.1, slots := r.2.2.2, locals := d1 * 40 } : Room).locals ≤ R.locals := by
            refine ⟨h5, ?_⟩
            show 8 + (e1.1.2.2.1 + 11) + d1 * 40 ≤ R.locals
            have := hme.2; omega
          have hff : c + ({ frames := d1, cells := r.2.2.1, slots := r.2.2.2, locals := d1 * 40 } : Room).cells ≤ R.cells ∧ s + ({ frames := d1, cells := r.2.2.1, slots := r.2.2.2, locals := d1 * 40 } : Room).slots ≤ R.slots := by
            refine ⟨?_, ?_⟩
            · show c + r.2.2.1 ≤ R.cells; omega
            · show s + r.2.2.2 ≤ R.slots; omega
          have hkk : ∀ (v2 : Option Value) (hp2 : List va_E), (v2 = r.1 ∧ hp2 = r.2.1) → mx_W l E e.1 R mc ms K (c + r.2.2.1) (s + r.2.2.2) (pc + 3) ls (v2.toList ++ rest) hp2 := by
            rintro v2 hp2 ⟨rfl, rfl⟩
            exact i3 R mc ms K h1 h2 h3 h4 h5 h6 hK
          rw [mx_split hst]
          unfold mx_isc at b1
          unfold mx_ckv at kv
          by_cases q13 : Nat.beq b 13 = true
          · rw [q13] at b1 kv
            dsimp only [cond] at b1 kv
            rw [Bool.and_eq_true] at kv
            obtain ⟨j, hj, rfl⟩ := mx_isS_ok b1
            exact mx_invVS (rm := { frames := d1, cells := r.2.2.1, slots := r.2.2.2, locals := d1 * 40 }) hj hdv hme.1 hln ⟨mx_has_ok kv.1, mx_has_ok k3, mx_has_ok kv.2⟩ hM hRR (Nat.ble_eq.mp b2) hff hkk
          · rw [Bool.not_eq_true] at q13
            rw [q13] at b1 kv
            dsimp only [cond] at b1 kv
            simp only [Bool.and_eq_true] at kv
            obtain ⟨⟨v1, v2⟩, v3⟩ := kv
            split at b1
            · rename_i cj fs hi
              have e2 : cj = mx_rc b := Nat.eq_of_beq_eq_true b1
              rw [e2] at hi
              by_cases q20 : Nat.ble 20 b = true
              · rw [q20] at v3
                dsimp only at v3
                split at v3
                · rename_i t ht
                  simp only [Bool.and_eq_true] at v3
                  exact mx_invVN (rm := { frames := d1, cells := r.2.2.1, slots := r.2.2.2, locals := d1 * 40 }) hdv hi (mx_cls _ (Nat.ble_eq.mp v1)).1 hme.1 hln (List.mem_of_getElem? ht) (of_decide_eq_true v3.1.1) (Nat.eq_of_beq_eq_true v3.1.2) (of_decide_eq_true v3.2) ⟨mx_has_ok k3, mx_has_ok v2⟩ hM hRR (Nat.ble_eq.mp b2) hff hkk
                · cases v3
              · rw [Bool.not_eq_true] at q20
                rw [q20] at v3
                exact mx_invV (rm := { frames := d1, cells := r.2.2.1, slots := r.2.2.2, locals := d1 * 40 }) hdv hi (mx_cls _ (Nat.ble_eq.mp v1)).1 hme.1 hln ⟨mx_has_ok v3, mx_has_ok k3, mx_has_ok v2⟩ hM hRR (Nat.ble_eq.mp b2) hff hkk
            · cases b1
        · rw [Bool.not_eq_true] at hb
          rw [hb] at h; cases h
      · cases h
    · -- invokespecial
      split at h
      · cases h
      rename_i d1
      by_cases hbb : Nat.beq b 1 = true
      · rw [hbb] at h hck
        dsimp only [cond] at h hck
        rw [Bool.and_eq_true] at hck
        split at h
        · rename_i i rest
          by_cases hb : Nat.ble (mx_cs rest) 8 = true
          · rw [hb] at h
            dsimp only [cond] at h
            obtain ⟨i1, i2, i3⟩ := ih (d1 + 1) mi (pc + 3) ls rest hp c s v hp' c' s' e he h
            refine ⟨i1, i2, fun R mc ms K h1 h2 h3 h4 h5 h6 hK => ?_⟩
            exact mx_objInit (by rw [hd, Nat.eq_of_beq_eq_true hck.1]) (mx_has_ok hck.2) hpg.2.1 hpg.2.2 ⟨by omega, by omega⟩ (Nat.ble_eq.mp hb) (i3 R mc ms K h1 h2 h3 h4 h5 h6 hK)
          · rw [Bool.not_eq_true] at hb
            rw [hb] at h; cases h
        · cases h
      · rw [Bool.not_eq_true] at hbb
        rw [hbb] at h hck
        dsimp only [cond] at h hck
        split at h
        · cases h
        rename_i e1 ha
        rw [ha] at hck
        dsimp only at hck
        simp only [Bool.and_eq_true] at hck
        obtain ⟨⟨⟨⟨⟨k1, k2⟩, k3⟩, k4⟩, k5⟩, kl⟩ := hck
        split at h
        · rename_i i rest hst
          by_cases hb : (Nat.ble (mx_cs rest) 8 && Nat.ble (lg_sl (.ref i :: (st.take e1.2.1).reverse)).length e1.1.2.2.1 && Nat.beq (st.take e1.2.1).length e1.2.1) = true
          · rw [hb] at h
            simp only [Bool.and_eq_true] at hb
            obtain ⟨⟨b2, b3⟩, b4⟩ := hb
            dsimp only [cond] at h
            split at h
            · cases h
            rename_i r hr
            have hM := callee d1 a e1 _ hp r ha (Nat.ble_eq.mp kl) (Nat.ble_eq.mp b3) hr
            obtain ⟨i1, i2, i3⟩ := ih (d1 + 1) mi (pc + 3) ls (r.1.toList ++ rest) r.2.1 _ _ v hp' c' s' e he h
            refine ⟨by omega, by omega, fun R mc ms K h1 h2 h3 h4 h5 h6 hK => ?_⟩
            have hme := (hpg.1 a e1 ha).1 (Nat.ble_eq.mp kl)
            rw [mx_split hst]
            refine mx_invI (rm := { frames := d1, cells := r.2.2.1, slots := r.2.2.2, locals := d1 * 40 }) (by rw [hd, Nat.eq_of_beq_eq_true k1]) hme.1 (of_decide_eq_true k4) (mx_rv_ok k5) (by rw [List.length_reverse]; exact Nat.eq_of_beq_eq_true b4) ⟨mx_has_ok k2, mx_has_ok k3⟩ hM ⟨h5, ?_⟩ (Nat.ble_eq.mp b2) ⟨?_, ?_⟩ ?_
            · show 8 + (e1.1.2.2.1 + 11) + d1 * 40 ≤ R.locals
              have := hme.2; omega
            · show c + r.2.2.1 ≤ R.cells; omega
            · show s + r.2.2.2 ≤ R.slots; omega
            · rintro v2 hp2 ⟨rfl, rfl⟩
              exact i3 R mc ms K h1 h2 h3 h4 h5 h6 hK
          · rw [Bool.not_eq_true] at hb
            rw [hb] at h; cases h
        · cases h
    · -- invokestatic
      split at h
      · cases h
      rename_i d1
      by_cases hbb : Nat.ble 7 b = true
      · rw [hbb] at h hck
        dsimp only [cond] at h hck
        simp only [Bool.and_eq_true] at hck
        obtain ⟨k1, k2⟩ := hck
        split at h
        · cases h
        rename_i f hf
        have hd1 : d1 ≠ 0 := by
          intro q
          rw [q] at hf
          cases hf
        have hf2 : mx_nat b (pc + 3) ls st hp = some f := by
          rw [show Nat.beq d1 0 = false by cases d1 with | zero => exact absurd rfl hd1 | succ n => rfl] at hf
          exact hf
        obtain ⟨i1, i2, i3⟩ := ih (d1 + 1) mi f.1 f.2.1 f.2.2.1 f.2.2.2.1 _ _ v hp' c' s' e he h
        refine ⟨by omega, by omega, fun R mc ms K h1 h2 h3 h4 h5 h6 hK => ?_⟩
        exact mx_l_nat (by rw [hd, Nat.eq_of_beq_eq_true k1]) k2 hE ⟨by omega, by omega⟩ (by omega) (by omega) hf2 (i3 R mc ms K h1 h2 h3 h4 h5 h6 hK)
      · rw [Bool.not_eq_true] at hbb
        rw [hbb] at h hck
        dsimp only [cond] at h hck
        split at h
        · cases h
        rename_i e1 ha
        rw [ha] at hck
        dsimp only at hck
        simp only [Bool.and_eq_true] at hck
        obtain ⟨⟨⟨k1, k2⟩, k3⟩, kl⟩ := hck
        by_cases hb : (Nat.ble (mx_cs (st.drop e1.2.1)) 8 && Nat.ble (lg_sl (st.take e1.2.1).reverse).length e1.1.2.2.1 && Nat.beq (st.take e1.2.1).length e1.2.1) = true
        · rw [hb] at h
          simp only [Bool.and_eq_true] at hb
          obtain ⟨⟨b2, b3⟩, b4⟩ := hb
          dsimp only [cond] at h
          split at h
          · cases h
          rename_i r hr
          have hM := callee d1 a e1 _ hp r ha (Nat.ble_eq.mp kl) (Nat.ble_eq.mp b3) hr
          obtain ⟨i1, i2, i3⟩ := ih (d1 + 1) mi (pc + 3) ls (r.1.toList ++ st.drop e1.2.1) r.2.1 _ _ v hp' c' s' e he h
          refine ⟨by omega, by omega, fun R mc ms K h1 h2 h3 h4 h5 h6 hK => ?_⟩
          have hme := (hpg.1 a e1 ha).1 (Nat.ble_eq.mp kl)
          rw [show st = ((st.take e1.2.1).reverse).reverse ++ st.drop e1.2.1 by rw [List.reverse_reverse, List.take_append_drop]]
          refine mx_invS (rm := { frames := d1, cells := r.2.2.1, slots := r.2.2.2, locals := d1 * 40 }) (by rw [hd, Nat.eq_of_beq_eq_true k1]) hme.1 (by rw [List.length_reverse]; exact Nat.eq_of_beq_eq_true b4) ⟨mx_has_ok k2, mx_has_ok k3⟩ hM ⟨h5, ?_⟩ (Nat.ble_eq.mp b2) ⟨?_, ?_⟩ ?_
          · show 8 + (e1.1.2.2.1 + 11) + d1 * 40 ≤ R.locals
            have := hme.2; omega
          · show c + r.2.2.1 ≤ R.cells; omega
          · show s + r.2.2.2 ≤ R.slots; omega
          · rintro v2 hp2 ⟨rfl, rfl⟩
            exact i3 R mc ms K h1 h2 h3 h4 h5 h6 hK
        · rw [Bool.not_eq_true] at hb
          rw [hb] at h; cases h
    · -- a step
      rename_i n1 n2 n3 n4 n5
      split at h
      · cases h
      rename_i f hf
      have hck1 : mx_ck1 e.1 pc (ins, len, a, b, w) = true := by
        split at hck
        all_goals first | exact hck | (exfalso; simp_all)
      obtain ⟨i1, i2, i3⟩ := ih d mi f.1 f.2.1 f.2.2.1 f.2.2.2.1 _ _ v hp' c' s' e he h
      refine ⟨by omega, by omega, fun R mc ms K h1 h2 h3 h4 h5 h6 hK => ?_⟩
      exact mx_step_ok (q := (ins, len, a, b, w)) hsL hsx hd hck1 hf (by omega) (by omega) (i3 R mc ms K h1 h2 h3 h4 h5 h6 hK)
set_option maxHeartbeats 4000000 in
theorem mx_mono1 {sL : Nat} {sx : Nat → Int32} {pg : List mx_En} : ∀ (n d mi pc : Nat) (ls : List (Nat × Value)) (st : List Value) (hp : List va_E) (c s : Nat) (r : Option Value × List va_E × Nat × Nat), mx_run sL sx pg n d mi pc ls st hp c s = some r → mx_run sL sx pg (n + 1) d mi pc ls st hp c s = some r := by
  intro n
  induction n with
  | zero => intro d mi pc ls st hp c s r h; cases h
  | succ n ih =>
    intro d mi pc ls st hp c s r h
    unfold mx_run at h ⊢
    cases he : pg[mi]? with
    | none => rw [he] at h; cases h
    | some e =>
      rw [he] at h
      dsimp only at h ⊢
      cases hq : mx_lk e.2.2.2 pc with
      | none => rw [hq] at h; cases h
      | some q =>
        rw [hq] at h
        dsimp only at h ⊢
        split at h
        · exact h
        · exact h
        · split at h
          · cases h
          split at h
          · cases h
          split at h
          · rw [Bool.cond_eq_ite] at h ⊢
            split at h
            · rename_i hb
              rw [if_pos hb]
              split at h
              · cases h
              rename_i r1 hr1
              rw [ih _ _ _ _ _ _ _ _ _ hr1]
              exact ih _ _ _ _ _ _ _ _ _ h
            · cases h
          · cases h
        · split at h
          · cases h
          rw [Bool.cond_eq_ite] at h ⊢
          split at h
          · rename_i hb
            rw [if_pos hb]
            split at h
            · rw [Bool.cond_eq_ite] at h ⊢
              split at h
              · rename_i hb2
                rw [if_pos hb2]
                exact ih _ _ _ _ _ _ _ _ _ h
              · cases h
            · cases h
          · rename_i hb
            rw [if_neg hb]
            split at h
            · cases h
            split at h
            · rw [Bool.cond_eq_ite] at h ⊢
              split at h
              · rename_i hb2
                rw [if_pos hb2]
                split at h
                · cases h
                rename_i r1 hr1
                rw [ih _ _ _ _ _ _ _ _ _ hr1]
                exact ih _ _ _ _ _ _ _ _ _ h
              · cases h
            · cases h
        · split at h
          · cases h
          rw [Bool.cond_eq_ite] at h ⊢
          split at h
          · rename_i hb
            rw [if_pos hb]
            split at h
            · cases h
            exact ih _ _ _ _ _ _ _ _ _ h
          · rename_i hb
            rw [if_neg hb]
            split at h
            · cases h
            rw [Bool.cond_eq_ite] at h ⊢
            split at h
            · rename_i hb2
              rw [if_pos hb2]
              split at h
              · cases h
              rename_i r1 hr1
              rw [ih _ _ _ _ _ _ _ _ _ hr1]
              exact ih _ _ _ _ _ _ _ _ _ h
            · cases h
        · split at h
          · cases h
          exact ih _ _ _ _ _ _ _ _ _ h
theorem mx_mono {sL : Nat} {sx : Nat → Int32} {pg : List mx_En} {n d mi pc : Nat} {ls : List (Nat × Value)} {st : List Value} {hp : List va_E} {c s : Nat} {r : Option Value × List va_E × Nat × Nat} (h : mx_run sL sx pg n d mi pc ls st hp c s = some r) : ∀ m, n ≤ m → mx_run sL sx pg m d mi pc ls st hp c s = some r := by
  intro m hm
  obtain ⟨k, rfl⟩ := Nat.le.dest hm
  induction k with
  | zero => exact h
  | succ k ih => exact mx_mono1 _ _ _ _ _ _ _ _ _ _ (ih (Nat.le_add_right _ _))
/-- it ends, with this -/
def mx_ends (sL : Nat) (sx : Nat → Int32) (pg : List mx_En) (d mi pc : Nat) (ls : List (Nat × Value)) (st : List Value) (hp : List va_E) (c s : Nat) (r : Option Value × List va_E × Nat × Nat) : Prop := ∃ n, mx_run sL sx pg n d mi pc ls st hp c s = some r
/-- a number of steps that call nobody -/
def mx_go (sL : Nat) (sx : Nat → Int32) (tab : List (Nat × mx_In)) : Nat → mx_Cf → Option mx_Cf
  | 0, x => some x
  | n + 1, x => match mx_lk tab x.1 with
    | none => none
    | some q => match mx_step sL sx q x.1 x.2.1 x.2.2.1 x.2.2.2.1 with
      | none => none
      | some f => mx_go sL sx tab n (f.1, f.2.1, f.2.2.1, f.2.2.2.1, x.2.2.2.2.1 + f.2.2.2.2.1, x.2.2.2.2.2 + f.2.2.2.2.2)
theorem mx_ends_step {sL : Nat} {sx : Nat → Int32} {pg : List mx_En} {d mi pc : Nat} {ls : List (Nat × Value)} {st : List Value} {hp : List va_E} {c s : Nat} {r : Option Value × List va_E × Nat × Nat} {e : mx_En} {q : mx_In} {f : mx_Cf} (he : pg[mi]? = some e) (hq : mx_lk e.2.2.2 pc = some q) (hf : mx_step sL sx q pc ls st hp = some f) (h : mx_ends sL sx pg d mi f.1 f.2.1 f.2.2.1 f.2.2.2.1 (c + f.2.2.2.2.1) (s + f.2.2.2.2.2) r) : mx_ends sL sx pg d mi pc ls st hp c s r := by
  obtain ⟨n, h⟩ := h
  refine ⟨n + 1, ?_⟩
  unfold mx_run
  rw [he]
  dsimp only
  rw [hq]
  dsimp only
  obtain ⟨ins, q⟩ := q
  unfold mx_step at hf
  dsimp only at hf ⊢
  split
  all_goals first | (cases hf; done) | skip
  rw [show mx_step sL sx (ins, q) pc ls st hp = some f by unfold mx_step; exact hf]
  exact h
theorem mx_ends_go {sL : Nat} {sx : Nat → Int32} {pg : List mx_En} {d mi : Nat} {r : Option Value × List va_E × Nat × Nat} {e : mx_En} (he : pg[mi]? = some e) : ∀ (n : Nat) (x y : mx_Cf), mx_go sL sx e.2.2.2 n x = some y → mx_ends sL sx pg d mi y.1 y.2.1 y.2.2.1 y.2.2.2.1 y.2.2.2.2.1 y.2.2.2.2.2 r → mx_ends sL sx pg d mi x.1 x.2.1 x.2.2.1 x.2.2.2.1 x.2.2.2.2.1 x.2.2.2.2.2 r
  | 0, x, y, h, k => by
    cases h
    exact k
  | n + 1, x, y, h, k => by
    unfold mx_go at h
    split at h
    · cases h
    rename_i q hq
    split at h
    · cases h
    rename_i f hf
    exact mx_ends_step he hq hf (mx_ends_go he n _ y h k)
theorem mx_mem {c : Nat} {w : Cond} (h : (mx_part (c / 1000))[c % 1000]? = some w) (hg : goodWord w = true) : w ∈ mx_tb := List.mem_filter.mpr ⟨mx_part_in _ _ (List.mem_of_getElem? h), hg⟩
/-- the check of fifty rows of a method, by its number -/
def mx_ckc (pg : List mx_En) (k j : Nat) : Bool := match pg[k]? with
  | none => true
  | some e => ((e.2.2.2.drop (50 * j)).take 50).all (fun x => decide (decode e.1.2.1 x.1 = .ok (x.2.1, x.2.2.1)) && mx_ck2 pg e.1 x.1 x.2)
theorem mx_pok_of {pg : List mx_En} (h0 : ∀ k e, pg[k]? = some e → k + 1 < pg.length → mx_me e.1 e.2.1 ∧ e.1.2.2.1 ≤ 21) (h : ∀ k, k < pg.length → ∀ j, mx_ckc pg k j = true) (h2 : Cond.instanceMethod objectInit ∈ mx_tb ∧ Cond.code objectInit ⟨#[0xb1]⟩ 1 none ∈ mx_tb) : mx_pok pg := by
  refine ⟨fun k e he => ⟨fun hk => h0 k e he hk, fun x hx => ?_⟩, h2⟩
  · obtain ⟨i, hi, hix⟩ := List.mem_iff_getElem.mp hx
    have h1 := h k (List.getElem?_eq_some_iff.mp he).1 (i / 50)
    unfold mx_ckc at h1
    rw [he] at h1
    have hm : x ∈ (e.2.2.2.drop (50 * (i / 50))).take 50 := by
      refine List.mem_iff_getElem?.mpr ⟨i % 50, ?_⟩
      rw [List.getElem?_take_of_lt (Nat.mod_lt _ (by decide)), List.getElem?_drop, show 50 * (i / 50) + i % 50 = i by omega, List.getElem?_eq_getElem hi, hix]
    have h3 := List.all_eq_true.mp h1 x hm
    rw [Bool.and_eq_true] at h3
    exact ⟨of_decide_eq_true h3.1, h3.2⟩
theorem mx_ckc_end {pg : List mx_En} {k j : Nat} {e : mx_En} (he : pg[k]? = some e) (h : e.2.2.2.length ≤ 50 * j) : mx_ckc pg k j = true := by
  unfold mx_ckc
  rw [he]
  dsimp only
  rw [List.drop_eq_nil_of_le h]
  rfl
