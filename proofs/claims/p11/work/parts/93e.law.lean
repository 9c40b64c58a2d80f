/-! THE CLAIM OUT OF ONE WALK OF THE LAW'S BODY. Your part is whole_start (and what it stands on); all else here is the same for every law, but numbers. -/
def R_law : String := "PatternDeskLaw"
def lw_P (b : Addr) (xs : List Int32) (args : Array Value) (s : State) : Prop := args = #[.ref b] ∧ s.IntsAt b xs ∧ xs.length ≤ 3072 ∧ (Jvm.Cond.and given_1 narrow_1).before args s = true
def lw_Q (_ : Array Value) (s : State) (o : Outcome) (t : State) : Prop := o = .returned (some (.int 1)) ∧ Framed s o t [] 600000 7302250
def lw_Z (below : List Frame) (a : Array Value) (s : State) : State → Prop := fun t => ∃ o, t.status = .running ∧ Ended t below o ∧ lw_Q a s o t
/-- what holds at the law's entry: the machine, the code, the tables' words (any of lw_tbl by 'hts w (by decide +kernel)'), the script of L ints xs at the cell b, what the Statement gives of the start (any of its parts by flat_of_before) -/
def lw_At (p : Program) (s : State) (m : MethodId) (meth : Method) (c : Code) (b L : Nat) (xs : Nat → Int32) : Prop :=
  p.tables.exec = Jvm.exec ∧ c.code = code ∧ meth.sig.returnType = ret ∧ c.maxLocals = 4 ∧ s.vm.findClass R_law = some m.cls ∧ (∀ w ∈ lw_tbl, w.before #[Value.ref b] s = true) ∧ va_X b L xs s s.heap ∧ b < s.heap.size ∧ meth.locks = false ∧ (Jvm.Cond.and given_1 narrow_1).before #[Value.ref b] s = true
/-! ===== THE LAW'S ENTRY: what lies below the first place; a run of the evaluator that answers 1 gives the walk ===== -/
theorem mx_c_eq {c : Nat} {q : vw_C} (h : vwCl[c]? = some q) : c < 13 ∧ q = mx_c c := by
  refine ⟨(List.getElem?_eq_some_iff.mp h).1, ?_⟩
  unfold mx_c
  rw [List.getD_eq_getElem?_getD, h]
  rfl
theorem mx_arr {s : State} {args : Array Value} {ty : FieldType} (h : (Cond.arrayClass ty).before args s = true) : ∃ cA : ClassId, ArrOfT s cA ty ∧ s.vm.findClass ("[" ++ ty.toString) = some cA := by
  obtain ⟨cA, kA, comp, h1, h2, h3⟩ := Cond.arrayClass_spec h
  exact ⟨cA, fun n z => ⟨fun k h => (by cases h), kA, h2, comp, h3⟩, h1⟩
def mx_ad (h b : Nat) (aK aV : Nat → Nat) (f g : Nat) : Nat → Nat := fun i => if i < 1000000 then h + i else if i = 1000000 then b else if i = 1000013 then f else if i = 1000014 then g else if i % 2 = 1 then aK ((i - 1000001) / 2) else aV ((i - 1000002) / 2)
theorem mx_ad_K {h b f g : Nat} {aK aV : Nat → Nat} {i : Nat} (hi : i < 6) : mx_ad h b aK aV f g (1000001 + 2 * i) = aK i := by
  unfold mx_ad
  rw [if_neg (by omega), if_neg (by omega), if_neg (by omega), if_neg (by omega), if_pos (by omega)]
  congr 1
  omega
theorem mx_ad_V {h b f g : Nat} {aK aV : Nat → Nat} {i : Nat} (hi : i < 6) : mx_ad h b aK aV f g (1000002 + 2 * i) = aV i := by
  unfold mx_ad
  rw [if_neg (by omega), if_neg (by omega), if_neg (by omega), if_neg (by omega), if_neg (by omega)]
  congr 1
  omega
theorem mx_S_to {N : Nat} {len : List Nat} {byt : List (List Int32)} {aK aV bK bV : Nat → Nat} {A : Nat → Prop} {U : State} {H : Heap} (h : vk_S N len byt aK aV A U H) (hk : ∀ i, i < N → bK i = aK i) (hv : ∀ i, i < N → bV i = aV i) : vk_S N len byt bK bV A U H :=
  ⟨fun i hi => by rw [hk i hi, hv i hi]; exact h.1 i hi, fun i j hi hj e => h.2 i j hi hj (by rw [← hk i hi, ← hk j hj]; exact e)⟩
def mx_tm (i : Nat) : Term := .string "PatternDesk$Tokens" (([66, 76, 82, 84, 86, 88] : List Nat).getD i 0)
theorem mx_X_of {s : State} {b L : Nat} {xs : Nat → Int32} (hts : ∀ w ∈ lw_tbl, w.before #[Value.ref b] s = true) (hX : va_X b L xs s s.heap) (hgv : (Jvm.Cond.and given_1 narrow_1).before #[Value.ref b] s = true) : ∃ (aK aV : Nat → Nat) (f g : Nat), ∀ (cA cC : Nat → ClassId) (iS : Nat → Nat → Nat), mx_X (mx_ad s.heap.size b aK aV f g, cA, cC, iS, s.heap.size, b, L, xs) s s.heap := by
  have hs := flat_of_before _ hgv
  have hA : ∀ a : Nat, a < s.heap.size → ¬ (fun q : Nat => s.heap.size ≤ q) a := fun a h q => absurd q (Nat.not_le.mpr h)
  have ht : ∀ c w, (mx_part (c / 1000))[c % 1000]? = some w → w.before #[Value.ref b] s = true := fun c w h => hts w (mx_part_in _ _ (List.mem_of_getElem? h))
  have g1 : ∀ i, i < 6 → (Cond.exactly (mx_tm i) "java/lang/String").before #[Value.ref b] s = true := fun i hi => hs _ (by revert i; decide +kernel)
  have g2 : ∀ i, i < 6 → (Cond.eq (.field (mx_tm i) "java/lang/String" "coder" "B") (.int 0)).before #[Value.ref b] s = true := fun i hi => hs _ (by revert i; decide +kernel)
  have g3 : ∀ i, i < 6 → (Cond.arrayOf (.field (mx_tm i) "java/lang/String" "value" "[B") .byte).before #[Value.ref b] s = true := fun i hi => hs _ (by revert i; decide +kernel)
  have g4 : ∀ i, i < 6 → (Cond.eq (.length (.field (mx_tm i) "java/lang/String" "value" "[B")) (.int (Int32.ofNat (mx_sln.getD i 0)))).before #[Value.ref b] s = true := fun i hi => hs _ (by revert i; decide +kernel)
  have g5 : ∀ i, i < 6 → ∀ j, j < mx_sln.getD i 0 → (Cond.eq (.elem (.field (mx_tm i) "java/lang/String" "value" "[B") (.int (Int32.ofNat j))) (.int ((mx_sby.getD i []).getD j 0))).before #[Value.ref b] s = true := fun i hi j hj => hs _ (by revert i j; decide +kernel)
  have g6 : ∀ i, i < 6 → ∀ j, j < 6 → i < j → (Cond.not (Cond.eq (mx_tm i) (mx_tm j))).before #[Value.ref b] s = true := fun i hi j hj c => hs _ (by revert i hi j hj c; decide +kernel)
  obtain ⟨aK, aV, hS, hev⟩ := vk_Sof (args := #[Value.ref b]) (s := s) (N := 6) (tm := mx_tm) (len := mx_sln) (byt := mx_sby) (A := fun q : Nat => s.heap.size ≤ q) (by decide) g1 g2 g3 g4 g5 (fun i j hi hj hij => by
    rcases Nat.lt_or_gt_of_ne hij with c | c
    · exact Or.inl (g6 i hi j hj c)
    · exact Or.inr (g6 j hj i hi c)) hA
  have hZ1 : va_Z "java/lang/String" "COMPACT_STRINGS" "Z" (.int 1) (fun q : Nat => s.heap.size ≤ q) s s.heap := va_Zof (ht 2203 _ rfl) (ht 1016 _ rfl) (va_eqi (hs _ (by decide +kernel))) hA
  have hZ2 : va_Zq "jdk/internal/util/Preconditions" "SIOOBE_FORMATTER" "Ljava/util/function/BiFunction;" (fun q : Nat => s.heap.size ≤ q) s s.heap := va_Zqof (ht 3002 _ rfl) (ht 1019 _ rfl) (hs _ (by decide +kernel)) hA
  have hq : ∃ f g : Nat, va_Z "jdk/internal/util/Preconditions" "SIOOBE_FORMATTER" "Ljava/util/function/BiFunction;" (if g = 0 then .null else .ref f) (fun q : Nat => s.heap.size ≤ q) s s.heap := by
    rcases hZ2 with h | ⟨t, h⟩
    · exact ⟨0, 0, h⟩
    · exact ⟨t, 1, h⟩
  obtain ⟨f, g, hfg⟩ := hq
  have hR : ∀ (i : Nat), i < 6 → ∀ (own : String) (k : Nat) (tx : String), (Cond.stringRef own k tx).before #[Value.ref b] s = true → (Term.string own k).eval #[Value.ref b] s none [] s = some (.ref (aK i)) → vk_R own k tx (mx_ad s.heap.size b aK aV f g (1000001 + 2 * i)) s := fun i hi own k tx h1 h2 => vk_R.of h1 (by rw [mx_ad_K hi]; exact h2)
  refine ⟨aK, aV, f, g, fun cA cC iS => ⟨hX, mx_S_to hS (fun i hi => mx_ad_K hi) (fun i hi => mx_ad_V hi), ?_, hZ1, hfg, ?_⟩⟩
  · refine List.forall_mem_cons.mpr ⟨hR 0 (by decide) _ _ _ (ht 2189 _ rfl) (hev 0 (by decide)), ?_⟩
    refine List.forall_mem_cons.mpr ⟨hR 1 (by decide) _ _ _ (ht 3046 _ rfl) (hev 1 (by decide)), ?_⟩
    refine List.forall_mem_cons.mpr ⟨hR 2 (by decide) _ _ _ (ht 3072 _ rfl) (hev 2 (by decide)), ?_⟩
    refine List.forall_mem_cons.mpr ⟨hR 3 (by decide) _ _ _ (ht 3073 _ rfl) (hev 3 (by decide)), ?_⟩
    refine List.forall_mem_cons.mpr ⟨hR 4 (by decide) _ _ _ (ht 3074 _ rfl) (hev 4 (by decide)), ?_⟩
    refine List.forall_mem_cons.mpr ⟨hR 5 (by decide) _ _ _ (ht 3075 _ rfl) (hev 5 (by decide)), ?_⟩
    refine List.forall_mem_cons.mpr ⟨hR 1 (by decide) _ _ _ (ht 6239 _ rfl) (va_eqR (hs (Cond.eq (.string "PatternDesk$Tokens" 76) (.string "PatternDeskModel" 221)) (by decide +kernel)) (hev 1 (by decide))), ?_⟩
    refine List.forall_mem_cons.mpr ⟨hR 2 (by decide) _ _ _ (ht 7006 _ rfl) (va_eqR (hs (Cond.eq (.string "PatternDesk$Tokens" 82) (.string "PatternDeskModel" 227)) (by decide +kernel)) (hev 2 (by decide))), ?_⟩
    refine List.forall_mem_cons.mpr ⟨hR 3 (by decide) _ _ _ (ht 7007 _ rfl) (va_eqR (hs (Cond.eq (.string "PatternDesk$Tokens" 84) (.string "PatternDeskModel" 229)) (by decide +kernel)) (hev 3 (by decide))), ?_⟩
    refine List.forall_mem_cons.mpr ⟨hR 4 (by decide) _ _ _ (ht 7008 _ rfl) (va_eqR (hs (Cond.eq (.string "PatternDesk$Tokens" 86) (.string "PatternDeskModel" 231)) (by decide +kernel)) (hev 4 (by decide))), ?_⟩
    refine List.forall_mem_cons.mpr ⟨hR 5 (by decide) _ _ _ (ht 7009 _ rfl) (va_eqR (hs (Cond.eq (.string "PatternDesk$Tokens" 88) (.string "PatternDeskModel" 233)) (by decide +kernel)) (hev 5 (by decide))), ?_⟩
    exact fun _ h => absurd h List.not_mem_nil
  · refine List.forall_mem_cons.mpr ⟨va_Nw.of rfl (ht 3233 _ rfl), ?_⟩
    refine List.forall_mem_cons.mpr ⟨va_Nw.of rfl (ht 4019 _ rfl), ?_⟩
    exact fun _ h => absurd h List.not_mem_nil
theorem mx_law {p : Program} {e : Env} {s : State} {m : MethodId} {below : List Frame} {meth : Method} {c : Code} (l : Launch) {b L : Nat} {xs : Nat → Int32} (hL : L ≤ 3072) (C0 : lw_At p s m meth c b L xs) {n : Nat} {hp' : List va_E} {c' s' : Nat} (h : mx_run L xs mx_pg n 2048 230 0 [(0, .ref 1000000)] [] [] 0 0 = some (some (.int 1), hp', c', s')) (hc : c' ≤ 600000) (hs : s' ≤ 7302250) :
    W p l e room_1 s m #[Value.ref b] below meth c s.heap [] 0 0 (lw_Z below #[Value.ref b] s) (entryFrame m ([Value.ref b] : List Value).toArray 4) := by
  obtain ⟨hx, hb, hr, hml, hown, hts, hX, hbl, hlocks, hgv⟩ := C0
  have ht : ∀ w ∈ mx_tb, w.before #[Value.ref b] s = true := fun w hw => hts w (List.mem_filter.mp hw).1
  obtain ⟨a0, h01, h02⟩ := mx_arr (ht (.arrayClass .int) (mx_mem (c := 1055) rfl (by decide +kernel)))
  obtain ⟨a1, h11, h12⟩ := mx_arr (ht (.arrayClass .boolean) (mx_mem (c := 6212) rfl (by decide +kernel)))
  obtain ⟨a2, h21, h22⟩ := mx_arr (ht (.arrayClass .byte) (mx_mem (c := 4058) rfl (by decide +kernel)))
  have hk0 : ∀ ci : Nat, ∃ q : ClassId × (Nat → Nat), ci < 13 → u_Kn s (mx_c ci).1 (mx_c ci).2.1 (mx_c ci).2.2 q.1 q.2 := by
    intro ci
    by_cases hci : ci < 13
    · obtain ⟨cC, iS, hkn⟩ := u_known ht (mx_in_tb ci hci) (ht _ (mx_inst ci hci).1)
      exact ⟨(cC, iS), fun _ => hkn⟩
    · exact ⟨(0, fun _ => 0), fun q => absurd q hci⟩
  obtain ⟨fk, hfk⟩ := Classical.axiomOfChoice hk0
  obtain ⟨aK, aV, f9, g9, hXX⟩ := mx_X_of hts hX hgv
  let E : mx_Ev := (mx_ad s.heap.size b aK aV f9 g9, fun t => if t = 0 then a0 else if t = 1 then a1 else a2, fun ci => (fk ci).1, fun ci => (fk ci).2, s.heap.size, b, L, xs)
  have hE : mx_ok E := ⟨fun i hi => if_pos hi, hbl, rfl, hL⟩
  have hK : mx_K E s := by
    refine ⟨fun ci q hq => ?_, fun k q hq => ?_⟩
    · obtain ⟨h1, rfl⟩ := mx_c_eq hq
      exact hfk ci h1
    · match k, hq with
      | 0, hq => cases hq; exact ⟨h01, h02⟩
      | 1, hq => cases hq; exact ⟨h11, h12⟩
      | 2, hq => cases hq; exact ⟨h21, h22⟩
      | k + 3, hq => simp [mx_T] at hq
  have hW := (mx_sound (l := l) (E := E) (sL := L) (sx := xs) rfl rfl hE mx_pg_ok n 2048 230 0 _ [] [] 0 0 _ hp' c' s' eL_law rfl h).2.2 room_1 600000 7302250 (fun v _ => v = some (.int 1)) hc hs (Nat.le_refl _) (Nat.le_refl _) (Nat.le_refl _) (Nat.le_of_ble_eq_true rfl) rfl
  have hl := lv_entry ([.ref b]) (n := 4) (Nat.le_of_ble_eq_true rfl)
  rw [lg_entry_eq]
  have hg := hW p e s m #[Value.ref b] below meth c s.heap [] _ ⟨hE, hx, hb, hml, hr, hlocks, fun q => absurd q (by decide), hown, ht, hK, Nat.le_refl _, hXX _ _ _⟩ ⟨fun k q hq => by simp [mx_w] at hq, rfl, Nat.zero_le _⟩ va_S.rf hl
  intro T hT X
  obtain ⟨t, a, o, b1, b2, ⟨⟨v, hp, ho, hv, -⟩, -⟩, Lc, hF, hLc⟩ := hg T hT X
  subst hv
  refine ⟨t, a, o, b1, b2, ho, ⟨_, ho⟩, hF.2.1, ?_⟩
  exact hF.2.2.weaken (fun y hy hlt => absurd hlt (Nat.not_lt.mpr (hLc y hy))) (Nat.le_refl _) (Nat.le_refl _)
