/-! ===== System.arraycopy between int arrays; Math.max, Math.min ===== -/
theorem mx_nfw : nativeFrameWords "java/lang/System" "arraycopy" 5 ≤ 21 := by decide +kernel
section MXY
variable {l : Launch} {E : mx_Ev} {M : mx_Me} {R : Room} {mc ms : Nat} {K : Option Value → List va_E → Prop} {cells slots pc : Nat} {ls : List (Nat × Value)} {st : List Value} {hp : List va_E}
theorem mx_copyi {index i0 i1 n0 n1 : Nat} {f g : Nat → Int32} {sp dp n : Int32} {rest : List Value} (hd : decode M.2.1 pc = .ok (.invokestatic index, 3)) (hw : Cond.methodLink M.1.cls index arraycopyName ∈ mx_tb ∧ Cond.native arraycopyName ∈ mx_tb ∧ Cond.static arraycopyName ∈ mx_tb ∧ Cond.initialized "java/lang/System" ∈ mx_tb) (hi0 : hp[i0]? = some (.inl (0, n0, .inl f))) (hi1 : hp[i1]? = some (.inl (0, n1, .inl g))) (h1 : ¬ sp < 0) (h2 : ¬ dp < 0) (h3 : ¬ n < 0) (h4 : sp.toNatClampNeg + n.toNatClampNeg ≤ n0) (h5 : dp.toNatClampNeg + n.toNatClampNeg ≤ n1) (hs : (rest.map fun v => v.category).sum ≤ 8) (hR : 1 ≤ R.frames ∧ 40 ≤ R.locals)
    (kk : mx_W l E M R mc ms K cells slots (pc + 3) ls rest (hp.set i1 (.inl (0, n1, .inl (va_cpy f g sp.toNatClampNeg dp.toNatClampNeg n.toNatClampNeg))))) : mx_W l E M R mc ms K cells slots pc ls (.int n :: .int dp :: .ref i1 :: .int sp :: .ref i0 :: rest) hp :=
  fun p e s m args below meth c H locs lv C0 P S L => by
    have hD := P.D C0.1
    have ha0 := mx_w_at (r := E.1) (cA := E.2.1) hi0
    have ha1 := mx_w_at (r := E.1) (cA := E.2.1) hi1
    have nn : ∀ z : Int32, ¬ z < 0 → z.toInt = (z.toNatClampNeg : Int) := by
      intro z hz
      have hz0 : (0 : Int) ≤ z.toInt := by
        have := Int32.not_lt.mp hz
        simpa using Int32.le_iff_toInt_le.mp this
      show z.toInt = ((z.toInt.toNat : Nat) : Int)
      omega
    intro T hT X
    have hc0 : H[E.1 i0]? = some (vp_cell (E.2.1 0) (n0, .inl f)) := P.1 i0 _ ha0
    have hc1 : H[E.1 i1]? = some (vp_cell (E.2.1 0) (n1, .inl g)) := P.1 i1 _ ha1
    obtain ⟨-, k0, hk0, cm0, hkk0⟩ := (C0.kn.2 0 _ rfl).1 n0 (fun j => .int (f j))
    obtain ⟨-, k1, hk1, cm1, hkk1⟩ := (C0.kn.2 0 _ rfl).1 n1 (fun j => .int (g j))
    obtain ⟨vm', X', step⟩ := X.arraycopy (own := M.1.cls) C0.2.1 C0.own (C0.ts _ hw.1) (C0.ts _ hw.2.1) (C0.ts _ hw.2.2.1) (C0.ts _ hw.2.2.2) (src := E.1 i0) (dst := E.1 i1) (cs := vp_cell (E.2.1 0) (n0, .inl f)) (cd := vp_cell (E.2.1 0) (n1, .inl g)) (srcPos := sp) (destPos := dp) (n := n) (by rw [hT]; exact hc0) (by rw [hT]; exact hc1)
      (fun _ h => by cases h) (fun _ h => by cases h) (fun h => by cases h) (fun h => by cases h) hk0 hk1 hkk0 hkk1 (by simp [refKind]) h1 h2 h3
      (by rw [nn sp h1, nn n h3]; show ¬ _ > ((arrV (E.2.1 0) n0 (fun j => .int (f j))).slots.size : Int); rw [arrV_size]; omega)
      (by rw [nn dp h2, nn n h3]; show ¬ _ > ((arrV (E.2.1 0) n1 (fun j => .int (g j))).slots.size : Int); rw [arrV_size]; omega)
      (fun vm₁ _ i hi => by
        have e : (vp_cell (E.2.1 0) (n0, .inl f)).slots.getD (sp.toNatClampNeg + i) .null = .int (f (sp.toNatClampNeg + i)) := by
          show (arrV (E.2.1 0) n0 (fun j => .int (f j))).slots.getD _ _ = _
          rw [Array.getD_eq_getD_getElem?, arrV_read _ _ (by omega)]
          rfl
        refine ⟨?_, ?_⟩
        · rw [e]; rfl
        · rw [e]; exact trivial)
      (g := F0 m pc lv (.int n :: .int dp :: .ref (E.1 i1) :: .int sp :: .ref (E.1 i0) :: rest.map (mx_v E.1))) rfl (L.1.trans C0.2.2.2.1.symm) (rest := rest.map (mx_v E.1)) rfl (by rw [C0.2.2.1]; exact hd) hR.1 (by
        have h8 := mx_sum (E := E) hs
        have hw2 := mx_nfw
        show 2 * 0 + _ + _ ≤ _
        omega)
    have e1 : copied (vp_cell (E.2.1 0) (n0, .inl f)) (vp_cell (E.2.1 0) (n1, .inl g)) sp dp n = vp_cell (E.2.1 0) (n1, .inl (va_cpy f g sp.toNatClampNeg dp.toNatClampNeg n.toNatClampNeg)) := va_copied (fun z => .int z) (E.2.1 0) (E.2.1 0) f g h4
    rw [e1] at X' step
    have hl : E.1 i1 < H.size := (Array.getElem?_eq_some_iff.mp hc1).1
    have hheap : ((T.setVm vm').setCell (E.1 i1) (vp_cell (E.2.1 0) (n1, .inl (va_cpy f g sp.toNatClampNeg dp.toNatClampNeg n.toNatClampNeg)))).heap = H.setIfInBounds (E.1 i1) (vp_cell (E.2.1 0) (n1, .inl (va_cpy f g sp.toNatClampNeg dp.toNatClampNeg n.toNatClampNeg))) := by rw [← hT]; rfl
    have oq : ∀ q : Nat, q ≠ E.1 i1 → (H.setIfInBounds (E.1 i1) (vp_cell (E.2.1 0) (n1, .inl (va_cpy f g sp.toNatClampNeg dp.toNatClampNeg n.toNatClampNeg))))[q]? = H[q]? := fun q hq => by simp [Array.getElem?_setIfInBounds, Ne.symm hq]
    have hP := P.1.set (e := mx_e E.1 E.2.1 (.inl (0, n1, .inl (va_cpy f g sp.toNatClampNeg dp.toNatClampNeg n.toNatClampNeg)))) hD ha1 (show (H.setIfInBounds (E.1 i1) _)[E.1 i1]? = some _ by simp [Array.getElem?_setIfInBounds, hl]) oq
    rw [mx_w_set] at hP
    obtain ⟨t, a1, b1⟩ := kk p e s m args below meth c _ _ lv C0 ⟨hP, by simp; exact P.2.1, by rw [List.length_set]; exact P.2.2⟩ ⟨by simp; exact S.1, fun q g1 g2 => by
        rw [oq q (fun e => g2 (by rw [e]; exact hD.2 i1 _ ha1))]
        exact S.2.1 q g1 g2, fun q hq => by
        rcases List.mem_append.mp hq with h | h
        · exact S.2.2 q h
        · obtain ⟨z, -, hz⟩ := List.mem_map.mp h
          rw [← hz]
          exact hD.2 i1 _ ha1⟩ L _ hheap X'
    exact ⟨t, step t a1, b1⟩
end MXY
def mx_a_cpy (pc : Nat) (ls : List (Nat × Value)) (st : List Value) (hp : List va_E) : Option mx_Cf := match st with
  | .int n :: .int dp :: .ref i1 :: .int sp :: .ref i0 :: r => match hp[i0]? with
    | some (.inl (0, n0, .inl f)) => match hp[i1]? with
      | some (.inl (0, n1, .inl g)) => cond (decide (¬ sp < 0) && decide (¬ dp < 0) && decide (¬ n < 0) && Nat.ble (sp.toNatClampNeg + n.toNatClampNeg) n0 && Nat.ble (dp.toNatClampNeg + n.toNatClampNeg) n1 && Nat.ble (mx_cs r) 8) (some (pc, ls, r, hp.set i1 (.inl (0, n1, .inl (va_cpy f g sp.toNatClampNeg dp.toNatClampNeg n.toNatClampNeg))), 0, 0)) none
      | _ => none
    | _ => none
  | _ => none
theorem mx_l_cpy {l : Launch} {E : mx_Ev} {M : mx_Me} {R : Room} {mc ms : Nat} {K : Option Value → List va_E → Prop} {cells slots pc : Nat} {ls : List (Nat × Value)} {st : List Value} {hp : List va_E} {q1 : mx_Cf} {index : Nat} (hd : decode M.2.1 pc = .ok (.invokestatic index, 3)) (hw : Cond.methodLink M.1.cls index arraycopyName ∈ mx_tb ∧ Cond.native arraycopyName ∈ mx_tb ∧ Cond.static arraycopyName ∈ mx_tb ∧ Cond.initialized "java/lang/System" ∈ mx_tb) (hR : 1 ≤ R.frames ∧ 40 ≤ R.locals) (h : mx_a_cpy (pc + 3) ls st hp = some q1) (k : mx_G l E M R mc ms K cells slots q1) : mx_W l E M R mc ms K cells slots pc ls st hp := by
  unfold mx_a_cpy at h
  split at h
  · rename_i n dp i1 sp i0 r
    split at h
    · rename_i n0 f hi0
      split at h
      · rename_i n1 g hi1
        by_cases hq : (decide (¬ sp < 0) && decide (¬ dp < 0) && decide (¬ n < 0) && Nat.ble (sp.toNatClampNeg + n.toNatClampNeg) n0 && Nat.ble (dp.toNatClampNeg + n.toNatClampNeg) n1 && Nat.ble (mx_cs r) 8) = true
        · rw [hq] at h
          simp only [Bool.and_eq_true] at hq
          obtain ⟨⟨⟨⟨⟨q1', q2⟩, q3⟩, q4⟩, q5⟩, q6⟩ := hq
          cases h
          exact mx_copyi hd hw hi0 hi1 (of_decide_eq_true q1') (of_decide_eq_true q2) (of_decide_eq_true q3) (Nat.ble_eq.mp q4) (Nat.ble_eq.mp q5) (Nat.ble_eq.mp q6) hR k
        · rw [Bool.not_eq_true] at hq
          rw [hq] at h; cases h
      · cases h
    · cases h
  · cases h
def mx_a_m (f : Int32 → Int32 → Int32) (pc : Nat) (ls : List (Nat × Value)) (st : List Value) (hp : List va_E) : Option mx_Cf := match st with
  | .int y :: .int x :: r => cond (Nat.ble (mx_cs r) 8) (some (pc, ls, .int (f x y) :: r, hp, 0, 0)) none
  | _ => none
theorem mx_l_max {l : Launch} {E : mx_Ev} {M : mx_Me} {R : Room} {mc ms : Nat} {K : Option Value → List va_E → Prop} {cells slots pc : Nat} {ls : List (Nat × Value)} {st : List Value} {hp : List va_E} {q1 : mx_Cf} {index : Nat} (hd : decode M.2.1 pc = .ok (.invokestatic index, 3)) (hw : Cond.methodLink M.1.cls index Lib.Math.max.name ∈ mx_tb ∧ Cond.code Lib.Math.max.name Lib.Math.max.code 2 (some .int) ∈ mx_tb ∧ Cond.static Lib.Math.max.name ∈ mx_tb ∧ Cond.initialized "java/lang/Math" ∈ mx_tb) (hR : 1 ≤ R.frames ∧ 40 ≤ R.locals) (hc : cells ≤ R.cells) (hs : slots ≤ R.slots) (h : mx_a_m (fun x y => if x < y then y else x) (pc + 3) ls st hp = some q1) (k : mx_G l E M R mc ms K cells slots q1) : mx_W l E M R mc ms K cells slots pc ls st hp := by
  unfold mx_a_m at h
  split at h
  · rename_i y x r
    by_cases hq : Nat.ble (mx_cs r) 8 = true
    · rw [hq] at h
      cases h
      intro p e s m args below meth c H locs lv C0 P S L
      exact va_mmax (own := M.1.cls) C0.2.1 C0.2.2.1 (C0.2.2.2.1.trans L.1.symm) C0.own (C0.ts _ hw.1) (C0.ts _ hw.2.2.1) (C0.ts _ hw.2.2.2) (C0.ts _ hw.2.1) hR.1 (by have := mx_sum (E := E) (Nat.ble_eq.mp hq); omega) hc hs hd (k p e s m args below meth c H locs lv C0 P S L)
    · rw [Bool.not_eq_true] at hq
      rw [hq] at h; cases h
  · cases h
theorem mx_l_min {l : Launch} {E : mx_Ev} {M : mx_Me} {R : Room} {mc ms : Nat} {K : Option Value → List va_E → Prop} {cells slots pc : Nat} {ls : List (Nat × Value)} {st : List Value} {hp : List va_E} {q1 : mx_Cf} {index : Nat} (hd : decode M.2.1 pc = .ok (.invokestatic index, 3)) (hw : Cond.methodLink M.1.cls index Lib.Math.min.name ∈ mx_tb ∧ Cond.code Lib.Math.min.name Lib.Math.min.code 2 (some .int) ∈ mx_tb ∧ Cond.static Lib.Math.min.name ∈ mx_tb ∧ Cond.initialized "java/lang/Math" ∈ mx_tb) (hR : 1 ≤ R.frames ∧ 40 ≤ R.locals) (hc : cells ≤ R.cells) (hs : slots ≤ R.slots) (h : mx_a_m (fun x y => if y < x then y else x) (pc + 3) ls st hp = some q1) (k : mx_G l E M R mc ms K cells slots q1) : mx_W l E M R mc ms K cells slots pc ls st hp := by
  unfold mx_a_m at h
  split at h
  · rename_i y x r
    by_cases hq : Nat.ble (mx_cs r) 8 = true
    · rw [hq] at h
      cases h
      intro p e s m args below meth c H locs lv C0 P S L
      exact va_mmin (own := M.1.cls) C0.2.1 C0.2.2.1 (C0.2.2.2.1.trans L.1.symm) C0.own (C0.ts _ hw.1) (C0.ts _ hw.2.2.1) (C0.ts _ hw.2.2.2) (C0.ts _ hw.2.1) hR.1 (by have := mx_sum (E := E) (Nat.ble_eq.mp hq); omega) hc hs hd (k p e s m args below meth c H locs lv C0 P S L)
    · rw [Bool.not_eq_true] at hq
      rw [hq] at h; cases h
  · cases h
theorem dci_0 : decode cJ0_checkIndex_df160 0 = .ok (.iload_n 0, 1) := by decide +kernel
theorem dci_1 : decode cJ0_checkIndex_df160 1 = .ok (.iload_n 1, 1) := by decide +kernel
theorem dci_2 : decode cJ0_checkIndex_df160 2 = .ok (.getstatic 1053, 3) := by decide +kernel
theorem dci_5 : decode cJ0_checkIndex_df160 5 = .ok (.invokestatic 1059, 3) := by decide +kernel
theorem dci_8 : decode cJ0_checkIndex_df160 8 = .ok (.pop, 1) := by decide +kernel
theorem dci_9 : decode cJ0_checkIndex_df160 9 = .ok (.return_, 1) := by decide +kernel
theorem dpi_0 : decode cJ3_checkIndex_8e157 0 = .ok (.iload_n 0, 1) := by decide +kernel
theorem dpi_1 : decode cJ3_checkIndex_8e157 1 = .ok (.ifCond .lt 8, 3) := by decide +kernel
theorem dpi_4 : decode cJ3_checkIndex_8e157 4 = .ok (.iload_n 0, 1) := by decide +kernel
theorem dpi_5 : decode cJ3_checkIndex_8e157 5 = .ok (.iload_n 1, 1) := by decide +kernel
theorem dpi_6 : decode cJ3_checkIndex_8e157 6 = .ok (.if_icmp .lt 10, 3) := by decide +kernel
theorem dpi_16 : decode cJ3_checkIndex_8e157 16 = .ok (.iload_n 0, 1) := by decide +kernel
theorem dpi_17 : decode cJ3_checkIndex_8e157 17 = .ok (.ireturn, 1) := by decide +kernel
/-! String.checkIndex: it calls Preconditions.checkIndex, with a static of which only 'a reference or null' is known -/
def mx_Mci : mx_Me := (yJ0_checkIndex_df160, cJ0_checkIndex_df160, 2, none)
def mx_Mpi : mx_Me := (yJ3_checkIndex_8e157, cJ3_checkIndex_8e157, 3, some .int)
theorem mx_Mci_me : mx_me mx_Mci 2 := ⟨mx_has_ok (c := 3061) (by decide +kernel), mx_has_ok (c := 1016) (by decide +kernel), by decide +kernel, by decide +kernel⟩
theorem mx_Mpi_me : mx_me mx_Mpi 3 := ⟨mx_has_ok (c := 3064) (by decide +kernel), mx_has_ok (c := 1019) (by decide +kernel), by decide +kernel, by decide +kernel⟩
section MXI
variable {l : Launch} {E : mx_Ev} {M : mx_Me} {R : Room} {mc ms : Nat} {K : Option Value → List va_E → Prop} {cells slots pc : Nat} {ls : List (Nat × Value)} {st : List Value} {hp : List va_E}
theorem mx_pi {i n : Int32} {v : Value} (hE : mx_ok E) (hv : v = .null ∨ v = .ref 1000013) (h0 : 0 ≤ i) (h1 : i < n) : mx_M l E mx_Mpi { frames := 0, cells := 0, slots := 0, locals := 0 } [.int i, .int n, v] hp (fun w hp' => w = some (.int i) ∧ hp' = hp) := by
  have hc : v.category = 1 := by rcases hv with rfl | rfl <;> rfl
  refine mx_intro hE mx_Mpi_me ?_ ?_
  · rcases hv with rfl | rfl <;> exact Nat.le_of_ble_eq_true rfl
  have e : lv_args 0 [.int i, .int n, v] = [(0, .int i), (1, .int n), (2, v)] := by rcases hv with rfl | rfl <;> rfl
  rw [e]
  refine mx_iload_n (k := 0) (x := i) dpi_0 rfl ?_
  refine mx_if_lt (tgt := 9) dpi_1 (by decide) (fun q => absurd q (Int32.not_lt.mpr h0)) (fun _ => ?_)
  refine mx_iload_n (k := 0) (x := i) dpi_4 rfl ?_
  refine mx_iload_n (k := 1) (x := n) dpi_5 rfl ?_
  refine mx_icmp_lt (tgt := 16) dpi_6 (by decide) (fun _ => ?_) (fun q => absurd h1 q)
  refine mx_iload_n (k := 0) (x := i) dpi_16 rfl ?_
  exact mx_ireturn dpi_17 (Or.inl rfl) (Nat.le_refl _) (Nat.le_refl _) ⟨rfl, rfl⟩
theorem mx_ci {i n : Int32} (hE : mx_ok E) (h0 : 0 ≤ i) (h1 : i < n) : mx_M l E mx_Mci { frames := 1, cells := 0, slots := 0, locals := 40 } [.int i, .int n] hp (fun w hp' => w = none ∧ hp' = hp) := by
  refine mx_intro hE mx_Mci_me (Nat.le_of_ble_eq_true rfl) ?_
  refine mx_iload_n (k := 0) (x := i) dci_0 rfl ?_
  refine mx_iload_n (k := 1) (x := n) dci_1 rfl ?_
  have rest : ∀ v : Value, v = .null ∨ v = .ref 1000013 → mx_W l E mx_Mci { frames := 1, cells := 0, slots := 0, locals := 40 } 0 0 (fun w hp' => w = none ∧ hp' = hp) 0 0 5 (lv_args 0 [.int i, .int n]) [v, .int n, .int i] hp := by
    intro v hv
    refine mx_invS (M' := mx_Mpi) (rm := { frames := 0, cells := 0, slots := 0, locals := 0 }) (As := [.int i, .int n, v]) (rest := []) (n := 3) dci_5 mx_Mpi_me rfl ⟨mx_has_ok (c := 3062) (by decide +kernel), mx_has_ok (c := 3063) (by decide +kernel)⟩ (mx_pi hE hv h0 h1) ⟨by decide, by decide⟩ (by decide) ⟨by decide, by decide⟩ ?_
    rintro w hp' ⟨rfl, rfl⟩
    refine mx_pop dci_8 rfl ?_
    exact mx_return dci_9 rfl (Nat.le_refl _) (Nat.le_refl _) ⟨rfl, rfl⟩
  exact mx_getsF dci_2 (mx_has_ok (c := 3001) (by decide +kernel)) (rest _ (Or.inl rfl)) (rest _ (Or.inr rfl))
end MXI
def mx_a_ci (pc : Nat) (ls : List (Nat × Value)) (st : List Value) (hp : List va_E) : Option mx_Cf := match st with
  | .int y :: .int x :: r => cond (Nat.ble (mx_cs r) 8 && decide (0 ≤ x) && decide (x < y)) (some (pc, ls, r, hp, 0, 0)) none
  | _ => none
theorem mx_l_ci {l : Launch} {E : mx_Ev} {M : mx_Me} {R : Room} {mc ms : Nat} {K : Option Value → List va_E → Prop} {cells slots pc : Nat} {ls : List (Nat × Value)} {st : List Value} {hp : List va_E} {q1 : mx_Cf} {index : Nat} (hE : mx_ok E) (hd : decode M.2.1 pc = .ok (.invokestatic index, 3)) (hw : Cond.methodLink M.1.cls index mx_Mci.1 ∈ mx_tb ∧ Cond.static mx_Mci.1 ∈ mx_tb) (hR : 2 ≤ R.frames ∧ 80 ≤ R.locals) (hc : cells ≤ R.cells) (hs : slots ≤ R.slots) (h : mx_a_ci (pc + 3) ls st hp = some q1) (k : mx_G l E M R mc ms K cells slots q1) : mx_W l E M R mc ms K cells slots pc ls st hp := by
  unfold mx_a_ci at h
  split at h
  · rename_i y x r
    by_cases hq : (Nat.ble (mx_cs r) 8 && decide (0 ≤ x) && decide (x < y)) = true
    · rw [hq] at h
      simp only [Bool.and_eq_true] at hq
      cases h
      refine mx_invS (M' := mx_Mci) (rm := { frames := 1, cells := 0, slots := 0, locals := 40 }) (As := [.int x, .int y]) (rest := r) (n := 2) hd mx_Mci_me rfl hw (mx_ci hE (of_decide_eq_true hq.1.2) (of_decide_eq_true hq.2)) ⟨hR.1, ?_⟩ (Nat.ble_eq.mp hq.1.1) ⟨hc, hs⟩ ?_
      · show 8 + (mx_Mci.2.2.1 + 11) + 40 ≤ R.locals
        have : mx_Mci.2.2.1 ≤ 5 := by decide
        omega
      · rintro w hp' ⟨rfl, rfl⟩
        exact k
    · rw [Bool.not_eq_true] at hq
      rw [hq] at h; cases h
  · cases h
/-- what is called by its number: 7 System.arraycopy, 8 Math.max, 9 Math.min, 10 String.checkIndex -/
def mx_nat (b pc : Nat) (ls : List (Nat × Value)) (st : List Value) (hp : List va_E) : Option mx_Cf := match b with
  | 7 => mx_a_cpy pc ls st hp
  | 8 => mx_a_m (fun x y => if x < y then y else x) pc ls st hp
  | 9 => mx_a_m (fun x y => if y < x then y else x) pc ls st hp
  | 10 => mx_a_ci pc ls st hp
  | _ => none
/-- where 'java/lang/System is initialised' and 'java/lang/Math is initialised' stand -/
def mx_sysi : Nat := 1015
def mx_mthi : Nat := 1014
def mx_ckn (M : mx_Me) (index : Nat) (q : Nat × Nat × Nat × Nat) : Bool := match q.2.2.1 with
  | 7 => mx_has q.2.2.2 (.methodLink M.1.cls index arraycopyName) && mx_has q.2.1 (.native arraycopyName) && mx_has (q.2.1 - 1) (.static arraycopyName) && mx_has mx_sysi (.initialized "java/lang/System")
  | 8 => mx_has q.2.2.2 (.methodLink M.1.cls index Lib.Math.max.name) && mx_has q.2.1 (.code Lib.Math.max.name Lib.Math.max.code 2 (some .int)) && mx_has (q.2.1 - 1) (.static Lib.Math.max.name) && mx_has mx_mthi (.initialized "java/lang/Math")
  | 9 => mx_has q.2.2.2 (.methodLink M.1.cls index Lib.Math.min.name) && mx_has q.2.1 (.code Lib.Math.min.name Lib.Math.min.code 2 (some .int)) && mx_has (q.2.1 - 1) (.static Lib.Math.min.name) && mx_has mx_mthi (.initialized "java/lang/Math")
  | 10 => mx_has q.2.2.2 (.methodLink M.1.cls index mx_Mci.1) && mx_has q.2.1 (.static mx_Mci.1)
  | _ => false
theorem mx_l_nat {l : Launch} {E : mx_Ev} {M : mx_Me} {R : Room} {mc ms : Nat} {K : Option Value → List va_E → Prop} {cells slots pc : Nat} {ls : List (Nat × Value)} {st : List Value} {hp : List va_E} {q1 : mx_Cf} {index len a b w : Nat} (hd : decode M.2.1 pc = .ok (.invokestatic index, 3)) (hck : mx_ckn M index (len, a, b, w) = true) (hE : mx_ok E) (hR : 2 ≤ R.frames ∧ 80 ≤ R.locals) (hc : cells ≤ R.cells) (hs : slots ≤ R.slots) (h : mx_nat b (pc + 3) ls st hp = some q1) (k : mx_G l E M R mc ms K cells slots q1) : mx_W l E M R mc ms K cells slots pc ls st hp := by
  unfold mx_nat at h
  unfold mx_ckn at hck
  dsimp only at hck
  split at h
  · simp only [Bool.and_eq_true] at hck
    exact mx_l_cpy hd ⟨mx_has_ok hck.1.1.1, mx_has_ok hck.1.1.2, mx_has_ok hck.1.2, mx_has_ok hck.2⟩ ⟨by omega, by omega⟩ h k
  · simp only [Bool.and_eq_true] at hck
    exact mx_l_max hd ⟨mx_has_ok hck.1.1.1, mx_has_ok hck.1.1.2, mx_has_ok hck.1.2, mx_has_ok hck.2⟩ ⟨by omega, by omega⟩ hc hs h k
  · simp only [Bool.and_eq_true] at hck
    exact mx_l_min hd ⟨mx_has_ok hck.1.1.1, mx_has_ok hck.1.1.2, mx_has_ok hck.1.2, mx_has_ok hck.2⟩ ⟨by omega, by omega⟩ hc hs h k
  · simp only [Bool.and_eq_true] at hck
    exact mx_l_ci hE hd ⟨mx_has_ok hck.1, mx_has_ok hck.2⟩ hR hc hs h k
  · cases h
