/-! ===== a step of the evaluator, what a program's rows must satisfy, and that the machine takes the step ===== -/
def mx_part : Nat → List Cond
  | 0 => k2_sels lw_privs
  | 1 => tables_1_1
  | 2 => tables_1_2
  | 3 => tables_1_3
  | 4 => tables_1_4
  | 5 => tables_1_5
  | 6 => tables_1_6
  | 7 => tables_1_7
  | 8 => tables_1_8
  | _ => []
theorem mx_part_in (p : Nat) (w : Cond) (h : w ∈ mx_part p) : w ∈ lw_tbl := by
  unfold mx_part at h
  unfold lw_tbl tables_1
  simp only [List.mem_append]
  split at h
  all_goals first | (exact absurd h List.not_mem_nil) | skip
  · exact Or.inl h
  · exact Or.inr (Or.inl h)
  · exact Or.inr (Or.inr (Or.inl h))
  · exact Or.inr (Or.inr (Or.inr (Or.inl h)))
  · exact Or.inr (Or.inr (Or.inr (Or.inr (Or.inl h))))
  · exact Or.inr (Or.inr (Or.inr (Or.inr (Or.inr (Or.inl h)))))
  · exact Or.inr (Or.inr (Or.inr (Or.inr (Or.inr (Or.inr (Or.inl h))))))
  · exact Or.inr (Or.inr (Or.inr (Or.inr (Or.inr (Or.inr (Or.inr (Or.inl h)))))))
  · exact Or.inr (Or.inr (Or.inr (Or.inr (Or.inr (Or.inr (Or.inr (Or.inr h)))))))
/-- a word of the tables, by its part and place -/
def mx_has (c : Nat) (w : Cond) : Bool := decide ((mx_part (c / 1000))[c % 1000]? = some w) && goodWord w
theorem mx_has_ok {c : Nat} {w : Cond} (h : mx_has c w = true) : w ∈ mx_tb := by
  unfold mx_has at h
  rw [Bool.and_eq_true] at h
  exact List.mem_filter.mpr ⟨mx_part_in _ _ (List.mem_of_getElem? (of_decide_eq_true h.1)), h.2⟩
/-- where the words on a sort's fields, its making, its being initialised stand -/
def mx_lays : List (Nat × Nat × List Nat) := [(1207, 1009, [1221, 1223, 1225, 1227, 1229, 1231, 1233, 1235, 1237]), (1120, 1006, [1156, 1158, 1160, 1162, 1164, 1166, 1168, 1170, 1172, 1174, 1176, 1178, 1180, 1182, 1184]), (1057, 1003, [1064, 1066]), (1188, 1008, [1197, 1199, 1201, 1203]), (1126, 1007, [1134, 1136, 1138]), (2007, 1011, [2019, 2021, 2023, 2025, 2027, 2029, 2031]), (2001, 1010, [2047, 2049, 2051, 2053, 2055, 2057, 2059, 2061, 2063, 2065, 2067, 2069, 2071]), (1086, 1005, [1100, 1102, 1104, 1106, 1108, 1110, 1112, 1114, 1116]), (1031, 1002, [1042, 1044, 1046, 1048, 1050, 1052]), (1070, 1004, [1078, 1080, 1082]), (2075, 1012, [2094, 2096, 2098, 2100, 2102, 2104, 2106, 2108, 2110, 2112, 2114, 2116]), (1023, 1001, [2130, 2132, 2134, 2136, 2138, 2140, 2142, 2144, 2146, 2148, 2150]), (5173, 1013, [6031, 6033, 6035, 6037, 6039, 6041, 6043, 6045, 6047, 6049, 6051, 6053, 6055, 6057, 6059, 6061, 6063, 6065, 6067, 6069, 6071, 6073, 6075, 6077, 6079, 6081, 6083, 6085, 6087, 6089, 6091, 6093, 6095, 6097, 6099, 6101, 6103, 6105, 6107, 6109, 6111, 6113, 6115, 6117, 6119, 6121, 6123, 6125, 6127, 6129, 6131, 6133, 6135, 6137, 6139, 6141, 6143, 6145, 6147, 6149, 6151, 6153, 6155, 6157, 6159, 6161, 6163, 6165, 6167, 6169, 6171, 6173, 6175, 6177, 6179, 6181, 6183, 6185, 6187, 6189, 6191, 6193, 6195, 6197, 6199, 6201, 6203, 6205, 6207, 6209])]
theorem mx_lays_ok : ∀ ci, ci < 13 → (mx_has (mx_lays.getD ci (0, 0, [])).1 (Cond.instantiable (mx_c ci).1 (mx_c ci).2.2) && mx_has (mx_lays.getD ci (0, 0, [])).2.1 (Cond.initialized (mx_c ci).1) && (List.range (mx_c ci).2.2).all (fun k => mx_has ((mx_lays.getD ci (0, 0, [])).2.2.getD k 0) (u_lay (mx_c ci).1 (mx_c ci).2.1 k))) = true := by decide +kernel
theorem mx_inst (ci : Nat) (h : ci < 13) : Cond.instantiable (mx_c ci).1 (mx_c ci).2.2 ∈ mx_tb ∧ Cond.initialized (mx_c ci).1 ∈ mx_tb := by
  have := mx_lays_ok ci h
  rw [Bool.and_eq_true, Bool.and_eq_true] at this
  exact ⟨mx_has_ok this.1.1, mx_has_ok this.1.2⟩
theorem mx_in_tb (ci : Nat) (h : ci < 13) : ∀ w ∈ u_ws (mx_c ci).1 (mx_c ci).2.1 (mx_c ci).2.2, w ∈ mx_tb := by
  have h1 := mx_lays_ok ci h
  rw [Bool.and_eq_true, Bool.and_eq_true] at h1
  intro w hw
  obtain ⟨k, hk, rfl⟩ := List.mem_map.mp hw
  exact mx_has_ok (List.all_eq_true.mp h1.2 k hk)
theorem mx_cls : ∀ ci, ci < 13 → mx_cl ci (mx_c ci).1 (mx_c ci).2.1 (mx_c ci).2.2 (mx_ty ci) := by
  intro ci h
  have h1 := mx_in_tb ci h
  match ci, h, h1 with
  | 0, _, h1 => exact ⟨rfl, h1, tyX0_ok, nmX0⟩
  | 1, _, h1 => exact ⟨rfl, h1, tyX1_ok, nmX1⟩
  | 2, _, h1 => exact ⟨rfl, h1, tyX2_ok, nmX2⟩
  | 3, _, h1 => exact ⟨rfl, h1, tyX3_ok, nmX3⟩
  | 4, _, h1 => exact ⟨rfl, h1, tyX4_ok, nmX4⟩
  | 5, _, h1 => exact ⟨rfl, h1, tyX5_ok, nmX5⟩
  | 6, _, h1 => exact ⟨rfl, h1, tyX6_ok, nmX6⟩
  | 7, _, h1 => exact ⟨rfl, h1, tyX7_ok, nmX7⟩
  | 8, _, h1 => exact ⟨rfl, h1, tyX8_ok, nmX8⟩
  | 9, _, h1 => exact ⟨rfl, h1, tyX9_ok, nmX9⟩
  | 10, _, h1 => exact ⟨rfl, h1, tyX10_ok, nmX10⟩
  | 11, _, h1 => exact ⟨rfl, h1, tyX11_ok, nmX11⟩
  | 12, _, h1 => exact ⟨rfl, h1, tyX12_ok, nmX12⟩
  | n + 13, h, _ => exact absurd h (by omega)
def mx_flk (own : String) (index ci k : Nat) : Cond := Cond.fieldLink own index ((mx_c ci).2.1 k).1 ((mx_c ci).2.1 k).2.1 ((mx_c ci).2.1 k).2.2.1
def mx_step (sL : Nat) (sx : Nat → Int32) (q : mx_In) (pc : Nat) (ls : List (Nat × Value)) (st : List Value) (hp : List va_E) : Option mx_Cf := match q.1 with
  | .iconst n => some (pc + 1, ls, .int (Int32.ofInt n) :: st, hp, 0, 0)
  | .bipush n => some (pc + 2, ls, .int (Int8.ofInt n).toInt32 :: st, hp, 0, 0)
  | .sipush n => some (pc + 3, ls, .int (Int16.ofInt n).toInt32 :: st, hp, 0, 0)
  | .aconst_null => some (pc + 1, ls, .null :: st, hp, 0, 0)
  | .ldc i => cond (Nat.beq q.2.2.2.1 1) (some (pc + 2, ls, .ref (1000001 + 2 * q.2.2.1) :: st, hp, 0, 0)) (some (pc + 2, ls, .int (Int32.ofNat q.2.2.1) :: st, hp, 0, 0))
  | .iload_n i => mx_a_li (pc + 1) i.val ls st hp
  | .iload i => mx_a_li (pc + 2) i ls st hp
  | .aload_n i => mx_a_la (pc + 1) i.val ls st hp
  | .aload i => mx_a_la (pc + 2) i ls st hp
  | .istore_n i => mx_a_si (pc + 1) i.val ls st hp
  | .istore i => mx_a_si (pc + 2) i ls st hp
  | .astore_n i => mx_a_sa (pc + 1) i.val ls st hp
  | .astore i => mx_a_sa (pc + 2) i ls st hp
  | .iinc i n => mx_a_inc (pc + 3) i n ls st hp
  | .iadd => mx_a_2 (fun x y => x + y) (pc + 1) ls st hp
  | .isub => mx_a_2 (fun x y => x - y) (pc + 1) ls st hp
  | .imul => mx_a_2 (fun x y => x * y) (pc + 1) ls st hp
  | .iand => mx_a_2 (fun x y => x &&& y) (pc + 1) ls st hp
  | .ior => mx_a_2 (fun x y => x ||| y) (pc + 1) ls st hp
  | .ixor => mx_a_2 (fun x y => x ^^^ y) (pc + 1) ls st hp
  | .ishl => mx_a_2 (fun x y => x <<< (y &&& 31)) (pc + 1) ls st hp
  | .ishr => mx_a_2 (fun x y => x >>> (y &&& 31)) (pc + 1) ls st hp
  | .iushr => mx_a_2 (fun x y => (x.toUInt32 >>> (y.toUInt32 &&& Int32.toUInt32 31)).toInt32) (pc + 1) ls st hp
  | .idiv => mx_a_2n (fun x y => x / y) (pc + 1) ls st hp
  | .irem => mx_a_2n (fun x y => x - x / y * y) (pc + 1) ls st hp
  | .ineg => mx_a_1 (fun x => -x) (pc + 1) ls st hp
  | .i2c => mx_a_1 (fun x => (x.toUInt32 % 65536).toInt32) (pc + 1) ls st hp
  | .i2b => mx_a_1 (fun x => x.toInt8.toInt32) (pc + 1) ls st hp
  | .ifCond .eq off => mx_a_b1 (fun x => decide (x = 0)) q.2.2.1 (pc + 3) ls st hp
  | .if_icmp .eq off => mx_a_b2 (fun x y => decide (x = y)) q.2.2.1 (pc + 3) ls st hp
  | .ifCond .ne off => mx_a_b1 (fun x => decide (x ≠ 0)) q.2.2.1 (pc + 3) ls st hp
  | .if_icmp .ne off => mx_a_b2 (fun x y => decide (x ≠ y)) q.2.2.1 (pc + 3) ls st hp
  | .ifCond .lt off => mx_a_b1 (fun x => decide (x < 0)) q.2.2.1 (pc + 3) ls st hp
  | .if_icmp .lt off => mx_a_b2 (fun x y => decide (x < y)) q.2.2.1 (pc + 3) ls st hp
  | .ifCond .ge off => mx_a_b1 (fun x => decide (0 ≤ x)) q.2.2.1 (pc + 3) ls st hp
  | .if_icmp .ge off => mx_a_b2 (fun x y => decide (y ≤ x)) q.2.2.1 (pc + 3) ls st hp
  | .ifCond .gt off => mx_a_b1 (fun x => decide (0 < x)) q.2.2.1 (pc + 3) ls st hp
  | .if_icmp .gt off => mx_a_b2 (fun x y => decide (y < x)) q.2.2.1 (pc + 3) ls st hp
  | .ifCond .le off => mx_a_b1 (fun x => decide (x ≤ 0)) q.2.2.1 (pc + 3) ls st hp
  | .if_icmp .le off => mx_a_b2 (fun x y => decide (x ≤ y)) q.2.2.1 (pc + 3) ls st hp
  | .goto off => some (q.2.2.1, ls, st, hp, 0, 0)
  | .tableswitch dflt lo hi offs => mx_a_ts pc dflt lo hi offs ls st hp
  | .getstatic index => some (pc + 3, ls, .int 1 :: st, hp, 0, 0)
  | .getfield index => cond (Nat.beq q.2.2.1 13) (mx_a_sget q.2.2.2.1 (pc + 3) ls st hp) (mx_a_get q.2.2.1 q.2.2.2.1 (pc + 3) ls st hp)
  | .putfield index => mx_a_put q.2.2.1 q.2.2.2.1 (pc + 3) ls st hp
  | .iaload => mx_a_ald sL sx (pc + 1) ls st hp
  | .iastore => mx_a_ast (pc + 1) ls st hp
  | .baload => mx_a_zl2 (pc + 1) ls st hp
  | .bastore => mx_a_zst (pc + 1) ls st hp
  | .arraylength => mx_a_len2 sL sx (pc + 1) ls st hp
  | .newarray .int => mx_a_na 0 (pc + 2) ls st hp
  | .newarray .boolean => mx_a_na 1 (pc + 2) ls st hp
  | .new index => mx_a_new q.2.2.1 (pc + 3) ls st hp
  | .dup => mx_a_dup (pc + 1) ls st hp
  | .pop => mx_a_pop (pc + 1) ls st hp
  | .dup_x1 => mx_a_dx1 (pc + 1) ls st hp
  | .dup_x2 => mx_a_dx2 (pc + 1) ls st hp
  | .dup2 => mx_a_d2 (pc + 1) ls st hp
  | _ => none
def mx_ck1 (M : mx_Me) (pc : Nat) (q : mx_In) : Bool := match q.1 with
  | .iconst n => Nat.beq q.2.1 1
  | .bipush n => Nat.beq q.2.1 2
  | .sipush n => Nat.beq q.2.1 3
  | .aconst_null => Nat.beq q.2.1 1
  | .ldc i => Nat.beq q.2.1 2 && cond (Nat.beq q.2.2.2.1 1) (match mx_lits[q.2.2.2.2]? with | some t => decide (t.1 = M.1.cls) && Nat.beq t.2.1 i && Nat.beq t.2.2.2 q.2.2.1 | none => false) (mx_has q.2.2.2.2 (Cond.constant M.1.cls i (Int32.ofNat q.2.2.1)))
  | .iload_n i => Nat.beq q.2.1 1
  | .iload i => Nat.beq q.2.1 2
  | .aload_n i => Nat.beq q.2.1 1
  | .aload i => Nat.beq q.2.1 2
  | .istore_n i => Nat.beq q.2.1 1 && Nat.blt i.val M.2.2.1
  | .istore i => Nat.beq q.2.1 2 && Nat.blt i M.2.2.1
  | .astore_n i => Nat.beq q.2.1 1 && Nat.blt i.val M.2.2.1
  | .astore i => Nat.beq q.2.1 2 && Nat.blt i M.2.2.1
  | .iinc i n => Nat.beq q.2.1 3 && Nat.blt i M.2.2.1
  | .iadd => Nat.beq q.2.1 1
  | .isub => Nat.beq q.2.1 1
  | .imul => Nat.beq q.2.1 1
  | .iand => Nat.beq q.2.1 1
  | .ior => Nat.beq q.2.1 1
  | .ixor => Nat.beq q.2.1 1
  | .ishl => Nat.beq q.2.1 1
  | .ishr => Nat.beq q.2.1 1
  | .iushr => Nat.beq q.2.1 1
  | .idiv => Nat.beq q.2.1 1
  | .irem => Nat.beq q.2.1 1
  | .ineg => Nat.beq q.2.1 1
  | .i2c => Nat.beq q.2.1 1
  | .i2b => Nat.beq q.2.1 1
  | .ifCond .eq off => Nat.beq q.2.1 3 && decide ((pc : Int) + off = (q.2.2.1 : Int))
  | .if_icmp .eq off => Nat.beq q.2.1 3 && decide ((pc : Int) + off = (q.2.2.1 : Int))
  | .ifCond .ne off => Nat.beq q.2.1 3 && decide ((pc : Int) + off = (q.2.2.1 : Int))
  | .if_icmp .ne off => Nat.beq q.2.1 3 && decide ((pc : Int) + off = (q.2.2.1 : Int))
  | .ifCond .lt off => Nat.beq q.2.1 3 && decide ((pc : Int) + off = (q.2.2.1 : Int))
  | .if_icmp .lt off => Nat.beq q.2.1 3 && decide ((pc : Int) + off = (q.2.2.1 : Int))
  | .ifCond .ge off => Nat.beq q.2.1 3 && decide ((pc : Int) + off = (q.2.2.1 : Int))
  | .if_icmp .ge off => Nat.beq q.2.1 3 && decide ((pc : Int) + off = (q.2.2.1 : Int))
  | .ifCond .gt off => Nat.beq q.2.1 3 && decide ((pc : Int) + off = (q.2.2.1 : Int))
  | .if_icmp .gt off => Nat.beq q.2.1 3 && decide ((pc : Int) + off = (q.2.2.1 : Int))
  | .ifCond .le off => Nat.beq q.2.1 3 && decide ((pc : Int) + off = (q.2.2.1 : Int))
  | .if_icmp .le off => Nat.beq q.2.1 3 && decide ((pc : Int) + off = (q.2.2.1 : Int))
  | .goto off => Nat.beq q.2.1 3 && decide ((pc : Int) + off = (q.2.2.1 : Int))
  | .tableswitch dflt lo hi offs => true
  | .getstatic index => Nat.beq q.2.1 3 && mx_has q.2.2.2.2 (Cond.fieldLink M.1.cls index "java/lang/String" "COMPACT_STRINGS" "Z")
  | .getfield index => cond (Nat.beq q.2.2.1 13) (Nat.beq q.2.1 3 && mx_has q.2.2.2.2 (cond (Nat.beq q.2.2.2.1 0) (Cond.fieldLink M.1.cls index "java/lang/String" "value" "[B") (Cond.fieldLink M.1.cls index "java/lang/String" "coder" "B"))) (Nat.beq q.2.1 3 && Nat.blt q.2.2.1 13 && Nat.blt q.2.2.2.1 (mx_c q.2.2.1).2.2 && mx_has q.2.2.2.2 (mx_flk M.1.cls index q.2.2.1 q.2.2.2.1))
  | .putfield index => Nat.beq q.2.1 3 && Nat.blt q.2.2.1 13 && Nat.blt q.2.2.2.1 (mx_c q.2.2.1).2.2 && mx_has q.2.2.2.2 (mx_flk M.1.cls index q.2.2.1 q.2.2.2.1) && decide (((mx_c q.2.2.1).2.1 q.2.2.2.1).2.2.2 = false ∨ (((mx_c q.2.2.1).2.1 q.2.2.2.1).2.2.2 = true ∧ M.1.name = "<init>" ∧ ((mx_c q.2.2.1).2.1 q.2.2.2.1).1 = M.1.cls))
  | .iaload => Nat.beq q.2.1 1
  | .iastore => Nat.beq q.2.1 1
  | .baload => Nat.beq q.2.1 1
  | .bastore => Nat.beq q.2.1 1
  | .arraylength => Nat.beq q.2.1 1
  | .newarray .int => Nat.beq q.2.1 2 && mx_has q.2.2.2.2 (Cond.arrayClass .int)
  | .newarray .boolean => Nat.beq q.2.1 2 && mx_has q.2.2.2.2 (Cond.arrayClass .boolean)
  | .new index => Nat.beq q.2.1 3 && Nat.blt q.2.2.1 13 && mx_has q.2.2.2.2 (Cond.classLink M.1.cls index (mx_c q.2.2.1).1)
  | .dup => Nat.beq q.2.1 1
  | .pop => Nat.beq q.2.1 1
  | .dup_x1 => Nat.beq q.2.1 1
  | .dup_x2 => Nat.beq q.2.1 1
  | .dup2 => Nat.beq q.2.1 1
  | _ => true
theorem mx_step_ok {l : Launch} {E : mx_Ev} {M : mx_Me} {R : Room} {mc ms : Nat} {K : Option Value → List va_E → Prop} {cells slots pc : Nat} {ls : List (Nat × Value)} {st : List Value} {hp : List va_E} {q1 : mx_Cf} {q : mx_In} {sL : Nat} {sx : Nat → Int32} (hsL : sL = E.2.2.2.2.2.2.1) (hsx : sx = E.2.2.2.2.2.2.2) (hd : decode M.2.1 pc = .ok (q.1, q.2.1)) (hck : mx_ck1 M pc q = true) (h : mx_step sL sx q pc ls st hp = some q1) (hC : cells + q1.2.2.2.2.1 ≤ R.cells) (hS : slots + q1.2.2.2.2.2 ≤ R.slots) (k : mx_G l E M R mc ms K cells slots q1) : mx_W l E M R mc ms K cells slots pc ls st hp := by
  have hl1 : ∀ {i : Instr} {n : Nat}, decode M.2.1 pc = .ok (i, q.2.1) → Nat.beq q.2.1 n = true → decode M.2.1 pc = .ok (i, n) := by
    intro i n h1 h2
    rw [h1, Nat.eq_of_beq_eq_true h2]
  obtain ⟨ins, q⟩ := q
  dsimp only at hd hl1
  unfold mx_step at h
  unfold mx_ck1 at hck
  dsimp only at h hck
  split at h
  · cases h; exact mx_iconst (hl1 hd hck) rfl k
  · cases h; exact mx_bipush (hl1 hd hck) rfl k
  · cases h; exact mx_sipush (hl1 hd hck) rfl k
  · cases h; exact mx_null (hl1 hd hck) k
  · rw [Bool.and_eq_true] at hck
    by_cases hb : Nat.beq q.2.2.1 1 = true
    · rw [hb] at h hck
      dsimp only [cond] at h hck
      split at hck
      · rename_i t ht
        simp only [Bool.and_eq_true] at hck
        have e1 := of_decide_eq_true hck.2.1.1
        have e2 := Nat.eq_of_beq_eq_true hck.2.1.2
        have e3 := Nat.eq_of_beq_eq_true hck.2.2
        rw [← e3] at h
        cases h
        exact mx_ldcS (hl1 hd hck.1) (List.mem_of_getElem? ht) e1 e2 k
      · exact absurd hck.2 (by decide)
    · rw [Bool.not_eq_true] at hb
      rw [hb] at h hck
      dsimp only [cond] at h hck
      cases h; exact mx_ldc (hl1 hd hck.1) (mx_has_ok hck.2) k
  · exact mx_l_li (fun x hx kk => mx_iload_n (hl1 hd hck) hx kk) h k
  · exact mx_l_li (fun x hx kk => mx_iload (hl1 hd hck) hx kk) h k
  · exact mx_l_la (fun x hx kk => mx_aload_n (hl1 hd hck) hx kk) h k
  · exact mx_l_la (fun x hx kk => mx_aload (hl1 hd hck) hx kk) h k
  · rw [Bool.and_eq_true] at hck; exact mx_l_si (fun x r kk => mx_istore_n (hl1 hd hck.1) (Nat.ble_eq.mp hck.2) kk) h k
  · rw [Bool.and_eq_true] at hck; exact mx_l_si (fun x r kk => mx_istore (hl1 hd hck.1) (Nat.ble_eq.mp hck.2) kk) h k
  · rw [Bool.and_eq_true] at hck; exact mx_l_sa (fun x r kk => mx_astore_n (hl1 hd hck.1) (Nat.ble_eq.mp hck.2) kk) h k
  · rw [Bool.and_eq_true] at hck; exact mx_l_sa (fun x r kk => mx_astore (hl1 hd hck.1) (Nat.ble_eq.mp hck.2) kk) h k
  · rw [Bool.and_eq_true] at hck; exact mx_l_inc (hl1 hd hck.1) (Nat.ble_eq.mp hck.2) h k
  · exact mx_l_2 (fun x y r kk => mx_iadd (hl1 hd hck) kk) h k
  · exact mx_l_2 (fun x y r kk => mx_isub (hl1 hd hck) kk) h k
  · exact mx_l_2 (fun x y r kk => mx_imul (hl1 hd hck) kk) h k
  · exact mx_l_2 (fun x y r kk => mx_iand (hl1 hd hck) kk) h k
  · exact mx_l_2 (fun x y r kk => mx_ior (hl1 hd hck) kk) h k
  · exact mx_l_2 (fun x y r kk => mx_ixor (hl1 hd hck) kk) h k
  · exact mx_l_2 (fun x y r kk => mx_ishl (hl1 hd hck) kk) h k
  · exact mx_l_2 (fun x y r kk => mx_ishr (hl1 hd hck) kk) h k
  · exact mx_l_2 (fun x y r kk => mx_iushr (hl1 hd hck) kk) h k
  · exact mx_l_2n (fun x y r hy kk => mx_idiv (hl1 hd hck) hy kk) h k
  · exact mx_l_2n (fun x y r hy kk => mx_irem (hl1 hd hck) hy kk) h k
  · exact mx_l_1 (fun x r kk => mx_ineg (hl1 hd hck) kk) h k
  · exact mx_l_1 (fun x r kk => mx_i2c (hl1 hd hck) kk) h k
  · exact mx_l_1 (fun x r kk => mx_i2b (hl1 hd hck) kk) h k
  · rw [Bool.and_eq_true] at hck; exact mx_l_b1 (fun x r ht hf => mx_if_eq (hl1 hd hck.1) (of_decide_eq_true hck.2) (fun hp2 => ht (decide_eq_true hp2)) (fun hp2 => hf (decide_eq_false hp2))) h k
  · rw [Bool.and_eq_true] at hck; exact mx_l_b2 (fun x y r ht hf => mx_icmp_eq (hl1 hd hck.1) (of_decide_eq_true hck.2) (fun hp2 => ht (decide_eq_true hp2)) (fun hp2 => hf (decide_eq_false hp2))) h k
  · rw [Bool.and_eq_true] at hck; exact mx_l_b1 (fun x r ht hf => mx_if_ne (hl1 hd hck.1) (of_decide_eq_true hck.2) (fun hp2 => ht (decide_eq_true hp2)) (fun hp2 => hf (decide_eq_false (fun hn => hn hp2)))) h k
  · rw [Bool.and_eq_true] at hck; exact mx_l_b2 (fun x y r ht hf => mx_icmp_ne (hl1 hd hck.1) (of_decide_eq_true hck.2) (fun hp2 => ht (decide_eq_true hp2)) (fun hp2 => hf (decide_eq_false (fun hn => hn hp2)))) h k
  · rw [Bool.and_eq_true] at hck; exact mx_l_b1 (fun x r ht hf => mx_if_lt (hl1 hd hck.1) (of_decide_eq_true hck.2) (fun hp2 => ht (decide_eq_true hp2)) (fun hp2 => hf (decide_eq_false hp2))) h k
  · rw [Bool.and_eq_true] at hck; exact mx_l_b2 (fun x y r ht hf => mx_icmp_lt (hl1 hd hck.1) (of_decide_eq_true hck.2) (fun hp2 => ht (decide_eq_true hp2)) (fun hp2 => hf (decide_eq_false hp2))) h k
  · rw [Bool.and_eq_true] at hck; exact mx_l_b1 (fun x r ht hf => mx_if_ge (hl1 hd hck.1) (of_decide_eq_true hck.2) (fun hp2 => ht (decide_eq_true hp2)) (fun hp2 => hf (decide_eq_false hp2))) h k
  · rw [Bool.and_eq_true] at hck; exact mx_l_b2 (fun x y r ht hf => mx_icmp_ge (hl1 hd hck.1) (of_decide_eq_true hck.2) (fun hp2 => ht (decide_eq_true hp2)) (fun hp2 => hf (decide_eq_false hp2))) h k
  · rw [Bool.and_eq_true] at hck; exact mx_l_b1 (fun x r ht hf => mx_if_gt (hl1 hd hck.1) (of_decide_eq_true hck.2) (fun hp2 => ht (decide_eq_true hp2)) (fun hp2 => hf (decide_eq_false hp2))) h k
  · rw [Bool.and_eq_true] at hck; exact mx_l_b2 (fun x y r ht hf => mx_icmp_gt (hl1 hd hck.1) (of_decide_eq_true hck.2) (fun hp2 => ht (decide_eq_true hp2)) (fun hp2 => hf (decide_eq_false hp2))) h k
  · rw [Bool.and_eq_true] at hck; exact mx_l_b1 (fun x r ht hf => mx_if_le (hl1 hd hck.1) (of_decide_eq_true hck.2) (fun hp2 => ht (decide_eq_true hp2)) (fun hp2 => hf (decide_eq_false hp2))) h k
  · rw [Bool.and_eq_true] at hck; exact mx_l_b2 (fun x y r ht hf => mx_icmp_le (hl1 hd hck.1) (of_decide_eq_true hck.2) (fun hp2 => ht (decide_eq_true hp2)) (fun hp2 => hf (decide_eq_false hp2))) h k
  · rw [Bool.and_eq_true] at hck; cases h; exact mx_goto (hl1 hd hck.1) (of_decide_eq_true hck.2) k
  · exact mx_l_ts hd h k
  · rw [Bool.and_eq_true] at hck; cases h; exact mx_gets (hl1 hd hck.1) (mx_has_ok hck.2) k
  · by_cases hb : Nat.beq q.2.1 13 = true
    · rw [hb] at h hck
      dsimp only [cond] at h hck
      rw [Bool.and_eq_true] at hck
      exact mx_l_sget (hl1 hd hck.1) (mx_has_ok hck.2) h k
    rw [Bool.not_eq_true] at hb
    rw [hb] at h hck
    dsimp only [cond] at h hck
    simp only [Bool.and_eq_true] at hck; exact mx_l_get (hl1 hd hck.1.1.1) (mx_cls _ (Nat.ble_eq.mp hck.1.1.2)) (mx_has_ok hck.2) (Nat.ble_eq.mp hck.1.2) h k
  · simp only [Bool.and_eq_true] at hck; exact mx_l_put (hl1 hd hck.1.1.1.1) (mx_cls _ (Nat.ble_eq.mp hck.1.1.1.2)) (mx_has_ok hck.1.2) (Nat.ble_eq.mp hck.1.1.2) (of_decide_eq_true hck.2) h k
  · subst hsL; subst hsx; exact mx_l_ald (hl1 hd hck) h k
  · exact mx_l_ast (hl1 hd hck) h k
  · exact mx_l_zl2 (hl1 hd hck) h k
  · exact mx_l_zst (hl1 hd hck) h k
  · subst hsL; subst hsx; exact mx_l_len2 (hl1 hd hck) h k
  · rw [Bool.and_eq_true] at hck; exact mx_l_na (fun n r h1 h2 h3 h4 h5 kk => mx_newi (hl1 hd hck.1) (mx_has_ok hck.2) h1 rfl h2 h3 h4 h5 kk) h hC hS k
  · rw [Bool.and_eq_true] at hck; exact mx_l_na (fun n r h1 h2 h3 h4 h5 kk => mx_newz (hl1 hd hck.1) (mx_has_ok hck.2) h1 rfl h2 h3 h4 h5 kk) h hC hS k
  · simp only [Bool.and_eq_true] at hck; exact mx_l_new (hl1 hd hck.1.1) (mx_cls _ (Nat.ble_eq.mp hck.1.2)) (mx_has_ok hck.2) (mx_inst _ (Nat.ble_eq.mp hck.1.2)).1 (mx_inst _ (Nat.ble_eq.mp hck.1.2)).2 h hC hS k
  · exact mx_l_dup (hl1 hd hck) h k
  · exact mx_l_pop (hl1 hd hck) h k
  · exact mx_l_dx1 (hl1 hd hck) h k
  · exact mx_l_dx2 (hl1 hd hck) h k
  · exact mx_l_d2 (hl1 hd hck) h k
  · cases h
