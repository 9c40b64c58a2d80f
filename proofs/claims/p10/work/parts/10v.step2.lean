/-! ===== arrays, the rest of the steps ===== -/
theorem sx_a_ald {sL : Nat} {sx : Nat → Int32} {pc i n : Nat} {ls : List (Nat × Value)} {r : List Value} {hp : List va_E} {f : Nat → Int32} {j : Int32} (h0 : Nat.beq i 1000000 = false) (hi : hp[i]? = some (.inl (0, n, .inl f))) (hj : mx_in j n = true) : mx_a_ald sL sx pc ls (.int j :: .ref i :: r) hp = some (pc, ls, .int (f j.toNatClampNeg) :: r, hp, 0, 0) := by
  unfold mx_a_ald
  dsimp only
  rw [h0, hi]
  show cond (mx_in j n) (some (pc, ls, Value.int (f j.toNatClampNeg) :: r, hp, 0, 0)) none = _
  rw [hj]
  rfl
theorem sx_a_ast {pc i n : Nat} {ls : List (Nat × Value)} {r : List Value} {hp : List va_E} {f : Nat → Int32} {j x : Int32} (hi : hp[i]? = some (.inl (0, n, .inl f))) (hj : mx_in j n = true) : mx_a_ast pc ls (.int x :: .int j :: .ref i :: r) hp = some (pc, ls, r, hp.set i (.inl (0, n, .inl (upd f j.toNatClampNeg x))), 0, 0) := by
  unfold mx_a_ast
  dsimp only
  rw [hi]
  show cond (mx_in j n) (some (pc, ls, r, hp.set i (.inl (0, n, .inl (upd f j.toNatClampNeg x))), 0, 0)) none = _
  rw [hj]
  rfl
theorem sx_a_zld {pc i n : Nat} {ls : List (Nat × Value)} {r : List Value} {hp : List va_E} {f : Nat → Int32} {j : Int32} (h0 : mx_isB i = false) (hi : hp[i]? = some (.inl (1, n, .inl f))) (hj : mx_in j n = true) : mx_a_zl2 pc ls (.int j :: .ref i :: r) hp = some (pc, ls, .int (f j.toNatClampNeg) :: r, hp, 0, 0) := by
  unfold mx_a_zl2 mx_a_zld
  dsimp only
  rw [h0, hi]
  show cond (mx_in j n) (some (pc, ls, Value.int (f j.toNatClampNeg) :: r, hp, 0, 0)) none = _
  rw [hj]
  rfl
theorem sx_a_zst {pc i n : Nat} {ls : List (Nat × Value)} {r : List Value} {hp : List va_E} {f : Nat → Int32} {j x : Int32} (hi : hp[i]? = some (.inl (1, n, .inl f))) (hj : mx_in j n = true) : mx_a_zst pc ls (.int x :: .int j :: .ref i :: r) hp = some (pc, ls, r, hp.set i (.inl (1, n, .inl (upd f j.toNatClampNeg (vp_nar .boolean x)))), 0, 0) := by
  unfold mx_a_zst
  dsimp only
  rw [hi]
  show cond (mx_in j n) (some (pc, ls, r, hp.set i (.inl (1, n, .inl (upd f j.toNatClampNeg (vp_nar .boolean x)))), 0, 0)) none = _
  rw [hj]
  rfl
theorem sx_a_len {sL : Nat} {sx : Nat → Int32} {pc i t : Nat} {ls : List (Nat × Value)} {r : List Value} {hp : List va_E} {a : vp_A} (hb : mx_isB i = false) (h0 : Nat.beq i 1000000 = false) (hi : hp[i]? = some (.inl (t, a))) (ht : Nat.blt t 3 = true) : mx_a_len2 sL sx pc ls (.ref i :: r) hp = some (pc, ls, .int (Int32.ofNat a.1) :: r, hp, 0, 0) := by
  unfold mx_a_len2 mx_a_len
  dsimp only
  rw [hb, h0, hi]
  dsimp only [cond]
  rw [ht]
theorem sx_upd (f : Nat → Int) (j : Nat) (v : Int) : upd (fun j => Int32.ofInt (f j)) j (Int32.ofInt v) = fun j' => Int32.ofInt (if j' = j then v else f j') := by
  funext j'
  unfold upd
  by_cases h : j' = j
  · simp [h]
  · simp [h]
theorem sx_small2 {i : Nat} (h : i < 600000) : Nat.beq i 1000000 = false := by
  rw [← Bool.not_eq_true]; exact fun q => by have := Nat.eq_of_beq_eq_true q; omega
theorem sx_ua_same (A : Nat → Nat → Int) (p j : Nat) (v : Int) : sx_ua A p j v p = fun j' => if j' = j then v else A p j' := by
  funext j'
  unfold sx_ua
  rw [Nat.beq_refl]
  rfl
theorem sx_ua_ne {A : Nat → Nat → Int} {p p' j : Nat} {v : Int} (h : p' ≠ p) : sx_ua A p j v p' = A p' := by
  funext j'
  unfold sx_ua
  have : Nat.beq p' p = false := by rw [← Bool.not_eq_true]; exact fun q => h (Nat.eq_of_beq_eq_true q)
  rw [this]
  rfl
section SXP
variable {wr : Bool} {sL : Nat} {sx : Nat → Int32} {pc : Nat} {ls : sx_L} {st : List sx_V} {s : sx_S} {K : sx_K}
theorem sx_o_ald {pc1 : Nat} (hsL : sL ≤ 3072) (hw : s.2.2.2 ≤ 500000) (h : sx_ald wr sL sx st s (fun r => K pc1 ls r s)) : sx_to s K (mx_a_ald sL sx pc1 (ls.map sx_ed) (st.map sx_e) (sx_hp s)) := by
  unfold sx_ald at h
  split at h
  · rename_i j i r
    cases hq : Nat.beq i 1000000 with
    | true =>
      rw [hq] at h
      obtain ⟨⟨h0, h1⟩, hk⟩ := h
      refine sx_to0 hk ?_
      have hj := sx_mxin h0 h1 (by omega)
      unfold mx_a_ald
      simp only [List.map_cons, sx_e]
      rw [hq]
      dsimp only [cond]
      rw [hj]
      dsimp only [cond]
      rw [sx_nat h0 (by omega), Int32.ofInt_toInt]
    | false =>
      rw [hq] at h
      dsimp only [cond] at h
      split at h
      · rename_i n ha
        obtain ⟨⟨h0, h1⟩, hk⟩ := h
        obtain ⟨hat, hN⟩ := sx_ar_at ha
        have hl := (sx_ar_len ha).1
        refine sx_to0 (sx_ld_ok (b := false) hk) ?_
        refine (sx_a_ald (r := r.map sx_e) hq (sx_hp_at hat) (sx_mxin h0 h1 hl)).trans ?_
        dsimp only at h1 hl
        rw [sx_nat h0 (by omega)]
        rfl
      · exact h.elim
  · rename_i j o r
    obtain ⟨⟨ho, h0, h1⟩, hk⟩ := h
    refine sx_to0 hk ?_
    refine (sx_a_ald (r := r.map sx_e) (sx_small2 (by omega)) (sx_hp_own ho) (sx_mxin (n := 8) h0 h1 (by decide))).trans ?_
    rw [sx_nat h0 (by omega)]
    rfl
  · exact h.elim
theorem sx_o_ast {pc1 : Nat} (h : sx_ast st s (fun r t => K pc1 ls r t)) : sx_to s K (mx_a_ast pc1 (ls.map sx_ed) (st.map sx_e) (sx_hp s)) := by
  unfold sx_ast at h
  split at h
  · rename_i v j i r
    split at h
    · rename_i n ha
      obtain ⟨⟨h0, h1⟩, hk⟩ := h
      obtain ⟨hat, hN⟩ := sx_ar_at ha
      have hl := (sx_ar_len ha).1
      dsimp only at h1 hl
      refine sx_to1 (t := (s.1, sx_ua s.2.1 i j.toNat v, s.2.2)) rfl hk ?_
      refine (sx_a_ast (r := r.map sx_e) (sx_hp_at hat) (sx_mxin h0 h1 hl)).trans ?_
      rw [sx_nat h0 (by omega), sx_upd]
      rw [sx_hp_ext (s := s) (t := (s.1, sx_ua s.2.1 i j.toNat v, s.2.2)) rfl (fun x hx => ?_) hN (fun q hq => ⟨rfl, sx_ua_ne hq⟩) rfl]
      cases hat.symm.trans hx
      show _ = Sum.inl (0, n, Sum.inl (fun j' => Int32.ofInt (sx_ua s.2.1 i j.toNat v i j')))
      rw [sx_ua_same]
    · exact h.elim
  · rename_i v j o r
    obtain ⟨⟨ho, h0, h1⟩, hk⟩ := h
    refine sx_to1 (t := (s.1, s.2.1, (fun o' => if o' = o then (fun j' => if j' = j.toNat then v else s.2.2.1 o j') else s.2.2.1 o'), s.2.2.2)) rfl hk ?_
    refine (sx_a_ast (r := r.map sx_e) (sx_hp_own ho) (sx_mxin (n := 8) h0 h1 (by decide))).trans ?_
    rw [sx_nat h0 (by omega), sx_upd, sx_hp_own_set ho]
  · exact h.elim
theorem sx_o_zld {pc1 : Nat} (h : sx_zld wr st s (fun r => K pc1 ls r s)) : sx_to s K (mx_a_zl2 pc1 (ls.map sx_ed) (st.map sx_e) (sx_hp s)) := by
  unfold sx_zld at h
  split at h
  · rename_i j i r
    cases hq : mx_isB i with
    | true =>
      rw [hq] at h
      rw [cond_true] at h
      obtain ⟨⟨h0, h1⟩, hk⟩ := sx_fz_ok h
      obtain ⟨j0, hj0, hi⟩ := mx_isB_ok hq
      refine sx_to0 (hk _ rfl (Int32.le_toInt _) (by have := Int32.toInt_lt ((mx_sby.getD ((i - 1000002) / 2) []).getD j.toNat 0); omega)) ?_
      have e1 : (i - 1000002) / 2 = j0 := by omega
      have hn : mx_sln.getD j0 0 ≤ 1000000 := by
        have : ∀ q, q < 6 → mx_sln.getD q 0 ≤ 1000000 := by decide
        exact this j0 hj0
      rw [e1] at h1
      have hj := sx_mxin h0 h1 hn
      unfold mx_a_zl2
      simp only [List.map_cons, sx_e]
      rw [hq, e1]
      dsimp only [cond]
      rw [hj]
      dsimp only [cond]
      rw [sx_nat h0 (by omega), Int32.ofInt_toInt]
    | false =>
      rw [hq] at h
      dsimp only [cond] at h
      split at h
      · rename_i n ha
        obtain ⟨⟨h0, h1⟩, hk⟩ := h
        obtain ⟨hat, hN⟩ := sx_ar_at ha
        have hl := (sx_ar_len ha).1
        dsimp only at h1 hl
        refine sx_to0 (sx_ld_ok (b := false) hk) ?_
        refine (sx_a_zld (r := r.map sx_e) hq (sx_hp_at hat) (sx_mxin h0 h1 hl)).trans ?_
        rw [sx_nat h0 (by omega)]
        rfl
      · exact h.elim
  · exact h.elim
theorem sx_o_zst {pc1 : Nat} (h : sx_zst st s (fun r t => K pc1 ls r t)) : sx_to s K (mx_a_zst pc1 (ls.map sx_ed) (st.map sx_e) (sx_hp s)) := by
  unfold sx_zst at h
  split at h
  · rename_i v j i r
    split at h
    · rename_i n ha
      obtain ⟨⟨hv, h0, h1⟩, hk⟩ := h
      obtain ⟨hat, hN⟩ := sx_ar_at ha
      have hl := (sx_ar_len ha).1
      dsimp only at h1 hl
      refine sx_to1 (t := (s.1, sx_ua s.2.1 i j.toNat v, s.2.2)) rfl hk ?_
      refine (sx_a_zst (r := r.map sx_e) (sx_hp_at hat) (sx_mxin h0 h1 hl)).trans ?_
      have e : vp_nar .boolean (Int32.ofInt v) = Int32.ofInt v := by rcases hv with rfl | rfl <;> rfl
      rw [sx_nat h0 (by omega), e, sx_upd]
      rw [sx_hp_ext (s := s) (t := (s.1, sx_ua s.2.1 i j.toNat v, s.2.2)) rfl (fun x hx => ?_) hN (fun q hq => ⟨rfl, sx_ua_ne hq⟩) rfl]
      cases hat.symm.trans hx
      show _ = Sum.inl (1, n, Sum.inl (fun j' => Int32.ofInt (sx_ua s.2.1 i j.toNat v i j')))
      rw [sx_ua_same]
    · exact h.elim
  · exact h.elim
theorem sx_o_len {pc1 : Nat} (h : sx_len sL st (fun r => K pc1 ls r s)) : sx_to s K (mx_a_len2 sL sx pc1 (ls.map sx_ed) (st.map sx_e) (sx_hp s)) := by
  unfold sx_len at h
  split at h
  · rename_i i r
    cases hq : mx_isB i with
    | true =>
      rw [hq] at h
      rw [cond_true] at h
      have h := sx_fz_ok h
      refine sx_to0 h ?_
      unfold mx_a_len2
      simp only [List.map_cons, sx_e]
      rw [hq]
      dsimp only [cond]
      rw [Int32.ofInt_eq_ofNat]
    | false =>
      rw [hq] at h
      dsimp only [cond] at h
      cases hq2 : Nat.beq i 1000000 with
      | true =>
        rw [hq2] at h
        refine sx_to0 h ?_
        unfold mx_a_len2 mx_a_len
        simp only [List.map_cons, sx_e]
        rw [hq, hq2]
        dsimp only [cond]
        rw [Int32.ofInt_eq_ofNat]
      | false =>
        rw [hq2] at h
        dsimp only [cond] at h
        split at h
        · rename_i t n ha
          obtain ⟨hat, hN⟩ := sx_ar_at ha
          refine sx_to0 h ?_
          refine (sx_a_len (r := r.map sx_e) hq hq2 (sx_hp_at hat) (Nat.ble_eq.mpr (sx_ar_len ha).2)).trans ?_
          show some (_, _, Value.int (Int32.ofNat n) :: _, _) = some (_, _, Value.int (Int32.ofInt (n : Int)) :: _, _)
          rw [Int32.ofInt_eq_ofNat]
        · exact h.elim
  · exact h.elim
theorem sx_o_new {pc1 : Nat} (h : sx_new st s (fun r t => K pc1 ls r t)) : sx_to s K (mx_a_na 0 pc1 (ls.map sx_ed) (st.map sx_e) (sx_hp s)) := by
  unfold sx_new at h
  split at h
  · rename_i n r
    obtain ⟨⟨rfl, hw⟩, hk⟩ := h
    refine ⟨_, _, _, (s.1, s.2.1, (fun o j => cond (Nat.beq o s.2.2.2) 0 (s.2.2.1 o j)), s.2.2.2 + 1), ?_, ⟨Nat.le_succ _, Or.inr hw⟩, hk⟩
    unfold mx_a_na
    simp only [List.map_cons, sx_e]
    have h1 : Nat.blt (sx_hp s).length 600000 = true := by
      rw [sx_hp_len]
      exact Nat.ble_eq.mpr (by omega)
    have h2 : (decide (¬ Int32.ofInt 8 < 0) && Nat.ble (Int32.ofInt 8).toNatClampNeg 1000000 && Nat.blt (sx_hp s).length 600000) = true := by
      rw [h1]; rfl
    rw [h2]
    dsimp only [cond]
    have h3 : (Int32.ofInt 8).toNatClampNeg = 8 := rfl
    rw [h3, sx_hp_push, sx_hp_len]
    simp [sx_e]
    rfl
  · exact h.elim
theorem sx_o_sw {x lo : Int} {r : List sx_V} : ∀ (l : List Int) (i : Nat) (k : Nat → Prop), sx_sw x lo pc k l i → ∀ j, x = lo + ((i + j : Nat) : Int) → ∀ off, l[j]? = some off → 0 ≤ (pc : Int) + off ∧ k ((pc : Int) + off).toNat
  | [], _, _, _, _, _, _, h => by cases h
  | a :: l, i, k, h, 0, hx, off, ho => by
    cases ho
    exact h.1 (by rw [hx]; rfl)
  | a :: l, i, k, h, j + 1, hx, off, ho => sx_o_sw (r := r) l (i + 1) k h.2 j (by rw [hx]; congr 2; omega) off ho
/-- the evaluator takes it -/
theorem sx_st_ok {ins : Instr} {len a b w : Nat} (hsL : sL ≤ 3072) (hw : s.2.2.2 ≤ 500000) (h : sx_st wr sL sx ins a b pc ls st s K) : sx_to s K (mx_step sL sx (ins, len, a, b, w) pc (ls.map sx_ed) (st.map sx_e) (sx_hp s)) := by
  unfold sx_st at h
  unfold mx_step
  dsimp only at h ⊢
  split at h
  · exact sx_to0 h rfl
  · rename_i n
    cases hc : (decide (-128 ≤ n) && decide (n ≤ 127)) with
    | false => rw [hc] at h; exact h.elim
    | true =>
      rw [hc] at h
      refine sx_to0 h ?_
      show some (pc + 2, _, Value.int (Int8.ofInt n).toInt32 :: _, _) = _
      rw [sx_i8 hc]; rfl
  · rename_i n
    cases hc : (decide (-32768 ≤ n) && decide (n ≤ 32767)) with
    | false => rw [hc] at h; exact h.elim
    | true =>
      rw [hc] at h
      refine sx_to0 h ?_
      show some (pc + 3, _, Value.int (Int16.ofInt n).toInt32 :: _, _) = _
      rw [sx_i16 hc]; rfl
  · cases hc : Nat.beq b 1 with
    | true =>
      rw [hc] at h
      exact sx_to0 h rfl
    | false =>
      rw [hc] at h
      refine sx_to0 h ?_
      dsimp only [cond]
      rw [← Int32.ofInt_eq_ofNat]; rfl
  · exact sx_o_li h
  · exact sx_o_li h
  · exact sx_o_la h
  · exact sx_o_la h
  · exact sx_o_si h
  · exact sx_o_si h
  · exact sx_o_sa h
  · exact sx_o_sa h
  · rename_i i n
    split at h
    · rename_i x hx
      refine sx_to0 h ?_
      show mx_a_inc (pc + 3) i n _ _ _ = _
      unfold mx_a_inc
      rw [sx_at_ed, hx]
      show some (pc + 3, mx_put _ i (Value.int (Int32.ofInt x + Int32.ofInt n)), _) = _
      rw [← sx_put_ed, ← Int32.ofInt_add, ← sx_w_of wr]
      rfl
    · exact h.elim
  · exact sx_o_2 (fun x y => by rw [sx_w_of, Int32.ofInt_add]) h
  · exact sx_o_2 (fun x y => by rw [sx_w_of, Int32.ofInt_sub]) h
  · exact sx_o_2 (fun x y => by rw [sx_w_of, Int32.ofInt_mul]) h
  · exact sx_o_2b sx_g_and h
  · exact sx_o_2b sx_g_or h
  · exact sx_o_2b (fun _ _ => trivial) h
  · exact sx_o_2b (fun _ _ => trivial) h
  · exact sx_o_2b (fun _ _ => trivial) h
  · exact sx_o_2d (fun x y hx hy => sx_div hx hy) h
  · exact sx_o_2d (fun x y hx hy => by rw [Int32.ofInt_sub, Int32.ofInt_mul, sx_div hx hy]) h
  · exact sx_o_1 (fun x => sx_i2c_of x) h
  · exact sx_o_1 (fun x => sx_i2b_of x) h
  · exact sx_o_b1 (fun x hx => ⟨fun q => (sx_inj hx sx_in0).mp (of_decide_eq_true q), fun q z => of_decide_eq_false q ((sx_inj hx sx_in0).mpr z)⟩) h
  · exact sx_o_b1 (fun x hx => ⟨fun q z => of_decide_eq_true q ((sx_inj hx sx_in0).mpr z), fun q => (sx_inj hx sx_in0).mp (Decidable.not_not.mp (of_decide_eq_false q))⟩) h
  · exact sx_o_b1 (fun x hx => ⟨fun q => (sx_lt hx sx_in0).mp (of_decide_eq_true q), fun q => Int.not_lt.mp (fun z => of_decide_eq_false q ((sx_lt hx sx_in0).mpr z))⟩) h
  · exact sx_o_b1 (fun x hx => ⟨fun q => (sx_le sx_in0 hx).mp (of_decide_eq_true q), fun q => Int.not_le.mp (fun z => of_decide_eq_false q ((sx_le sx_in0 hx).mpr z))⟩) h
  · exact sx_o_b1 (fun x hx => ⟨fun q => (sx_lt sx_in0 hx).mp (of_decide_eq_true q), fun q => Int.not_lt.mp (fun z => of_decide_eq_false q ((sx_lt sx_in0 hx).mpr z))⟩) h
  · exact sx_o_b1 (fun x hx => ⟨fun q => (sx_le hx sx_in0).mp (of_decide_eq_true q), fun q => Int.not_le.mp (fun z => of_decide_eq_false q ((sx_le hx sx_in0).mpr z))⟩) h
  · exact sx_o_b2 (fun x y hx hy => ⟨fun q => (sx_inj hx hy).mp (of_decide_eq_true q), fun q z => of_decide_eq_false q ((sx_inj hx hy).mpr z)⟩) h
  · exact sx_o_b2 (fun x y hx hy => ⟨fun q z => of_decide_eq_true q ((sx_inj hx hy).mpr z), fun q => (sx_inj hx hy).mp (Decidable.not_not.mp (of_decide_eq_false q))⟩) h
  · exact sx_o_b2 (fun x y hx hy => ⟨fun q => (sx_lt hx hy).mp (of_decide_eq_true q), fun q => Int.not_lt.mp (fun z => of_decide_eq_false q ((sx_lt hx hy).mpr z))⟩) h
  · exact sx_o_b2 (fun x y hx hy => ⟨fun q => (sx_le hy hx).mp (of_decide_eq_true q), fun q => Int.not_le.mp (fun z => of_decide_eq_false q ((sx_le hy hx).mpr z))⟩) h
  · exact sx_o_b2 (fun x y hx hy => ⟨fun q => (sx_lt hy hx).mp (of_decide_eq_true q), fun q => Int.not_lt.mp (fun z => of_decide_eq_false q ((sx_lt hy hx).mpr z))⟩) h
  · exact sx_o_b2 (fun x y hx hy => ⟨fun q => (sx_le hx hy).mp (of_decide_eq_true q), fun q => Int.not_le.mp (fun z => of_decide_eq_false q ((sx_le hx hy).mpr z))⟩) h
  · exact sx_to0 h rfl
  · rename_i dflt lo hi offs
    split at h
    · rename_i x r
      obtain ⟨hx, h1, hsz, h2⟩ := h
      unfold mx_a_ts
      simp only [List.map_cons, sx_e]
      rw [sx_toInt hx]
      by_cases ho : x < lo ∨ hi < x
      · obtain ⟨a0, a1⟩ := h1 ho
        refine sx_to0 a1 ?_
        rw [decide_eq_true ho, decide_eq_true a0]
        rfl
      · have hlt : (x - lo).toNat < offs.size := by omega
        have hg : offs.toList[(x - lo).toNat]? = some (offs[(x - lo).toNat]) := by simp [hlt]
        obtain ⟨a0, a1⟩ := sx_o_sw (r := r) _ _ _ h2 (x - lo).toNat (by omega) _ hg
        refine sx_to0 a1 ?_
        rw [decide_eq_false ho]
        dsimp only [cond]
        rw [show offs[(x - lo).toNat]? = some (offs[(x - lo).toNat]) by simp [hlt]]
        dsimp only
        rw [decide_eq_true a0]
    · exact h.elim
  · exact sx_to0 h rfl
  · exact sx_o_get h
  · exact sx_o_ptf h
  · exact sx_o_ald hsL hw h
  · exact sx_o_ast h
  · exact sx_o_zld h
  · exact sx_o_zst h
  · exact sx_o_len h
  · exact sx_o_new h
  · unfold sx_d1 at h
    split at h
    · refine sx_to0 h ?_
      unfold mx_a_dup
      simp only [List.map_cons]
      rw [sx_e_cat]; rfl
    · exact h.elim
  · unfold sx_pop at h
    split at h
    · refine sx_to0 h ?_
      unfold mx_a_pop
      simp only [List.map_cons]
      rw [sx_e_cat]; rfl
    · exact h.elim
  · unfold sx_dx1 at h
    split at h
    · refine sx_to0 h ?_
      unfold mx_a_dx1
      simp only [List.map_cons]
      rw [sx_e_cat, sx_e_cat]; rfl
    · exact h.elim
  · unfold sx_dx2 at h
    split at h
    · refine sx_to0 h ?_
      unfold mx_a_dx2
      simp only [List.map_cons]
      rw [sx_e_cat, sx_e_cat, sx_e_cat]; rfl
    · exact h.elim
  · unfold sx_d2 at h
    split at h
    · refine sx_to0 h ?_
      unfold mx_a_d2
      simp only [List.map_cons]
      rw [sx_e_cat, sx_e_cat]; rfl
    · exact h.elim
  · exact h.elim
end SXP
