/-! ===== a step over integers, as what must hold for it to go on ===== -/
def sx_n (z : Int) : Int := (z + 2147483648) % 4294967296 - 2147483648
def sx_w (wr : Bool) (z : Int) : Int := cond wr (sx_n z) z
def sx_in (z : Int) : Prop := -2147483648 ≤ z ∧ z ≤ 2147483647
def sx_at : sx_L → Nat → Option sx_V
  | [], _ => none
  | q :: l, i => cond (Nat.beq q.1 i) (some q.2) (sx_at l i)
def sx_rm : sx_L → Nat → sx_L
  | [], _ => []
  | q :: l, i => cond (Nat.beq q.1 i) (sx_rm l i) (q :: sx_rm l i)
def sx_put (ls : sx_L) (i : Nat) (v : sx_V) : sx_L := (i, v) :: sx_rm ls i
def sx_ua (A : Nat → Nat → Int) (p j : Nat) (v : Int) : Nat → Nat → Int := fun p' j' => cond (Nat.beq p' p) (if j' = j then v else A p' j') (A p' j')
def sx_ob (i : Nat) : Option (Nat × List Nat) := match sx_sh[i]? with
  | some (.inl o) => some o
  | _ => none
def sx_ar (i : Nat) : Option (Nat × Nat) := match sx_sh[i]? with
  | some (.inr a) => some a
  | _ => none
abbrev sx_K : Type := Nat → sx_L → List sx_V → sx_S → Prop
def sx_li (i : Nat) (ls : sx_L) (k : sx_V → Prop) : Prop := match sx_at ls i with
  | some (.inl x) => k (.inl x)
  | _ => False
def sx_la (i : Nat) (ls : sx_L) (k : sx_V → Prop) : Prop := match sx_at ls i with
  | some (.inr x) => k (.inr x)
  | _ => False
def sx_si (st : List sx_V) (k : sx_V → List sx_V → Prop) : Prop := match st with
  | .inl x :: r => k (.inl x) r
  | _ => False
def sx_sa (st : List sx_V) (k : sx_V → List sx_V → Prop) : Prop := match st with
  | .inr x :: r => k (.inr x) r
  | _ => False
def sx_1 (f : Int → Int) (st : List sx_V) (k : List sx_V → Prop) : Prop := match st with
  | .inl x :: r => k (.inl (f x) :: r)
  | _ => False
def sx_2 (f : Int → Int → Int) (st : List sx_V) (k : List sx_V → Prop) : Prop := match st with
  | .inl y :: .inl x :: r => k (.inl (f x y) :: r)
  | _ => False
def sx_b (f : Int32 → Int32 → Int32) (x y : Int) : Int := (f (Int32.ofInt x) (Int32.ofInt y)).toInt
def sx_2b (f : Int32 → Int32 → Int32) (g : Int → Int → Int → Prop) (st : List sx_V) (k : List sx_V → Prop) : Prop := match st with
  | .inl y :: .inl x :: r => True ∧ ∀ v, v = sx_b f x y → -2147483648 ≤ v → v ≤ 2147483647 → g x y v → k (.inl v :: r)
  | _ => False
def sx_2d (wr : Bool) (f : Int → Int → Int) (st : List sx_V) (k : List sx_V → Prop) : Prop := match st with
  | .inl y :: .inl x :: r => cond wr (((sx_in x ∧ sx_in y) ∧ y ≠ 0) ∧ ∀ v, v = sx_n (f x y) → -2147483648 ≤ v → v ≤ 2147483647 → k (.inl v :: r)) (((sx_in x ∧ sx_in y) ∧ y ≠ 0) ∧ k (.inl (f x y) :: r))
  | _ => False
def sx_b1 (P Q : Int → Prop) (st : List sx_V) (kt kf : List sx_V → Prop) : Prop := match st with
  | .inl x :: r => sx_in x ∧ ((P x → kt r) ∧ (Q x → kf r))
  | _ => False
def sx_b2 (P Q : Int → Int → Prop) (st : List sx_V) (kt kf : List sx_V → Prop) : Prop := match st with
  | .inl y :: .inl x :: r => (sx_in x ∧ sx_in y) ∧ ((P x y → kt r) ∧ (Q x y → kf r))
  | _ => False
def sx_sw (x lo : Int) (pc : Nat) (k : Nat → Prop) : List Int → Nat → Prop
  | [], _ => True
  | off :: l, i => (x = lo + (i : Int) → 0 ≤ (pc : Int) + off ∧ k ((pc : Int) + off).toNat) ∧ sx_sw x lo pc k l (i + 1)
/-- what is read from the desk's cells lies in its range -/
def sx_ld (wr : Bool) (i : Nat) (rg : Int × Int) (x : Int) (s : sx_S) (k : Int → Prop) : Prop := cond (wr && Nat.blt i 125) (match rg with
  | (lo, hi) => cx_I s ∧ ∀ v, v = x → lo ≤ v → v ≤ hi → k v) (k x)
def sx_get (wr : Bool) (ci k : Nat) (st : List sx_V) (s : sx_S) (kk : List sx_V → Prop) : Prop := match st with
  | .inr (.inl i) :: r => cond (Nat.beq ci 13) (cond (mx_isS i) (cond (Nat.beq k 0) (kk (.inr (.inl (i + 1)) :: r)) (kk (.inl 0 :: r))) False) (match sx_ob i with
    | some o => cond (Nat.beq o.1 ci) (match o.2[k]? with
      | some 0 => sx_ld wr i (cx_rng i k) (s.1 i k) s (fun v => kk (.inl v :: r))
      | some 1 => sx_ld wr i (cx_rng i k) (s.1 i k) s (fun v => kk (.inl v :: r))
      | some (q + 2) => kk (.inr (.inl q) :: r)
      | none => False) False
    | none => False)
  | _ => False
def sx_ptf (ci k : Nat) (st : List sx_V) (s : sx_S) (kk : List sx_V → sx_S → Prop) : Prop := match st with
  | .inl v :: .inr (.inl i) :: r => match sx_ob i with
    | some o => cond (Nat.beq o.1 ci) (match o.2[k]? with
      | some 0 => kk r (sx_uf s.1 i k v, s.2)
      | some 1 => (v = 0 ∨ v = 1) ∧ kk r (sx_uf s.1 i k v, s.2)
      | _ => False) False
    | none => False
  | _ => False
def sx_ald (wr : Bool) (sL : Nat) (sx : Nat → Int32) (st : List sx_V) (s : sx_S) (kk : List sx_V → Prop) : Prop := match st with
  | .inl j :: .inr (.inl i) :: r => cond (Nat.beq i 1000000) ((0 ≤ j ∧ j < (sL : Int)) ∧ kk (.inl (sx j.toNat).toInt :: r)) (match sx_ar i with
    | some (0, n) => (0 ≤ j ∧ j < (n : Int)) ∧ sx_ld wr i (cx_arg i) (s.2.1 i j.toNat) s (fun v => kk (.inl v :: r))
    | _ => False)
  | .inl j :: .inr (.inr o) :: r => (o < s.2.2.2 ∧ 0 ≤ j ∧ j < 8) ∧ kk (.inl (s.2.2.1 o j.toNat) :: r)
  | _ => False
def sx_ast (st : List sx_V) (s : sx_S) (kk : List sx_V → sx_S → Prop) : Prop := match st with
  | .inl v :: .inl j :: .inr (.inl i) :: r => match sx_ar i with
    | some (0, n) => (0 ≤ j ∧ j < (n : Int)) ∧ kk r (s.1, sx_ua s.2.1 i j.toNat v, s.2.2)
    | _ => False
  | .inl v :: .inl j :: .inr (.inr o) :: r => (o < s.2.2.2 ∧ 0 ≤ j ∧ j < 8) ∧ kk r (s.1, s.2.1, (fun o' => if o' = o then (fun j' => if j' = j.toNat then v else s.2.2.1 o j') else s.2.2.1 o'), s.2.2.2)
  | _ => False
def sx_fz (n : Nat) (k : Nat → Prop) : Prop := match n with
  | 0 => k 0
  | m + 1 => k (m + 1)
def sx_zld (wr : Bool) (st : List sx_V) (s : sx_S) (kk : List sx_V → Prop) : Prop := match st with
  | .inl j :: .inr (.inl i) :: r => cond (mx_isB i) (sx_fz (mx_sln.getD ((i - 1000002) / 2) 0) (fun n => (0 ≤ j ∧ j < (n : Int)) ∧ ∀ v, v = ((mx_sby.getD ((i - 1000002) / 2) []).getD j.toNat 0).toInt → -2147483648 ≤ v → v ≤ 2147483647 → kk (.inl v :: r))) (match sx_ar i with
    | some (1, n) => (0 ≤ j ∧ j < (n : Int)) ∧ sx_ld wr i (cx_arg i) (s.2.1 i j.toNat) s (fun v => kk (.inl v :: r))
    | _ => False)
  | _ => False
def sx_zst (st : List sx_V) (s : sx_S) (kk : List sx_V → sx_S → Prop) : Prop := match st with
  | .inl v :: .inl j :: .inr (.inl i) :: r => match sx_ar i with
    | some (1, n) => ((v = 0 ∨ v = 1) ∧ 0 ≤ j ∧ j < (n : Int)) ∧ kk r (s.1, sx_ua s.2.1 i j.toNat v, s.2.2)
    | _ => False
  | _ => False
def sx_len (sL : Nat) (st : List sx_V) (kk : List sx_V → Prop) : Prop := match st with
  | .inr (.inl i) :: r => cond (mx_isB i) (sx_fz (mx_sln.getD ((i - 1000002) / 2) 0) (fun n => kk (.inl (n : Int) :: r))) (cond (Nat.beq i 1000000) (kk (.inl (sL : Int) :: r)) (match sx_ar i with
    | some (_, n) => kk (.inl (n : Int) :: r)
    | none => False))
  | _ => False
def sx_new (st : List sx_V) (s : sx_S) (kk : List sx_V → sx_S → Prop) : Prop := match st with
  | .inl n :: r => (n = 8 ∧ s.2.2.2 < 500000) ∧ kk (.inr (.inr s.2.2.2) :: r) (s.1, s.2.1, (fun o j => cond (Nat.beq o s.2.2.2) 0 (s.2.2.1 o j)), s.2.2.2 + 1)
  | _ => False
def sx_d1 (st : List sx_V) (kk : List sx_V → Prop) : Prop := match st with
  | a :: r => kk (a :: a :: r)
  | _ => False
def sx_pop (st : List sx_V) (kk : List sx_V → Prop) : Prop := match st with
  | _ :: r => kk r
  | _ => False
def sx_dx1 (st : List sx_V) (kk : List sx_V → Prop) : Prop := match st with
  | a :: b :: r => kk (a :: b :: a :: r)
  | _ => False
def sx_dx2 (st : List sx_V) (kk : List sx_V → Prop) : Prop := match st with
  | a :: b :: d :: r => kk (a :: b :: d :: a :: r)
  | _ => False
def sx_d2 (st : List sx_V) (kk : List sx_V → Prop) : Prop := match st with
  | a :: b :: r => kk (a :: b :: a :: b :: r)
  | _ => False
def sx_st (wr : Bool) (sL : Nat) (sx : Nat → Int32) (ins : Instr) (a b : Nat) (pc : Nat) (ls : sx_L) (st : List sx_V) (s : sx_S) (K : sx_K) : Prop := match ins with
  | .iconst n => K (pc + 1) ls (.inl n :: st) s
  | .bipush n => cond (decide (-128 ≤ n) && decide (n ≤ 127)) (K (pc + 2) ls (.inl n :: st) s) False
  | .sipush n => cond (decide (-32768 ≤ n) && decide (n ≤ 32767)) (K (pc + 3) ls (.inl n :: st) s) False
  | .ldc _ => cond (Nat.beq b 1) (K (pc + 2) ls (.inr (.inl (1000001 + 2 * a)) :: st) s) (K (pc + 2) ls (.inl (a : Int) :: st) s)
  | .iload_n i => sx_li i.val ls (fun v => K (pc + 1) ls (v :: st) s)
  | .iload i => sx_li i ls (fun v => K (pc + 2) ls (v :: st) s)
  | .aload_n i => sx_la i.val ls (fun v => K (pc + 1) ls (v :: st) s)
  | .aload i => sx_la i ls (fun v => K (pc + 2) ls (v :: st) s)
  | .istore_n i => sx_si st (fun v r => K (pc + 1) (sx_put ls i.val v) r s)
  | .istore i => sx_si st (fun v r => K (pc + 2) (sx_put ls i v) r s)
  | .astore_n i => sx_sa st (fun v r => K (pc + 1) (sx_put ls i.val v) r s)
  | .astore i => sx_sa st (fun v r => K (pc + 2) (sx_put ls i v) r s)
  | .iinc i n => match sx_at ls i with
    | some (.inl x) => K (pc + 3) (sx_put ls i (.inl (sx_w wr (x + n)))) st s
    | _ => False
  | .iadd => sx_2 (fun x y => sx_w wr (x + y)) st (fun r => K (pc + 1) ls r s)
  | .isub => sx_2 (fun x y => sx_w wr (x - y)) st (fun r => K (pc + 1) ls r s)
  | .imul => sx_2 (fun x y => sx_w wr (x * y)) st (fun r => K (pc + 1) ls r s)
  | .iand => sx_2b (fun x y => x &&& y) (fun _ y v => 0 ≤ y → y ≤ 2147483647 → 0 ≤ v ∧ v ≤ y) st (fun r => K (pc + 1) ls r s)
  | .ior => sx_2b (fun x y => x ||| y) (fun x y v => 0 ≤ x → x ≤ 1 → 0 ≤ y → y ≤ 1 → 0 ≤ v ∧ v ≤ 1) st (fun r => K (pc + 1) ls r s)
  | .ishl => sx_2b (fun x y => x <<< (y &&& 31)) (fun _ _ _ => True) st (fun r => K (pc + 1) ls r s)
  | .ishr => sx_2b (fun x y => x >>> (y &&& 31)) (fun _ _ _ => True) st (fun r => K (pc + 1) ls r s)
  | .iushr => sx_2b (fun x y => (x.toUInt32 >>> (y.toUInt32 &&& Int32.toUInt32 31)).toInt32) (fun _ _ _ => True) st (fun r => K (pc + 1) ls r s)
  | .idiv => sx_2d wr (fun x y => x.tdiv y) st (fun r => K (pc + 1) ls r s)
  | .irem => sx_2d wr (fun x y => x - x.tdiv y * y) st (fun r => K (pc + 1) ls r s)
  | .i2c => sx_1 (fun x => x % 65536) st (fun r => K (pc + 1) ls r s)
  | .i2b => sx_1 (fun x => (x + 128) % 256 - 128) st (fun r => K (pc + 1) ls r s)
  | .ifCond .eq _ => sx_b1 (fun x => x = 0) (fun x => x ≠ 0) st (fun r => K a ls r s) (fun r => K (pc + 3) ls r s)
  | .ifCond .ne _ => sx_b1 (fun x => x ≠ 0) (fun x => x = 0) st (fun r => K a ls r s) (fun r => K (pc + 3) ls r s)
  | .ifCond .lt _ => sx_b1 (fun x => x < 0) (fun x => 0 ≤ x) st (fun r => K a ls r s) (fun r => K (pc + 3) ls r s)
  | .ifCond .ge _ => sx_b1 (fun x => 0 ≤ x) (fun x => x < 0) st (fun r => K a ls r s) (fun r => K (pc + 3) ls r s)
  | .ifCond .gt _ => sx_b1 (fun x => 0 < x) (fun x => x ≤ 0) st (fun r => K a ls r s) (fun r => K (pc + 3) ls r s)
  | .ifCond .le _ => sx_b1 (fun x => x ≤ 0) (fun x => 0 < x) st (fun r => K a ls r s) (fun r => K (pc + 3) ls r s)
  | .if_icmp .eq _ => sx_b2 (fun x y => x = y) (fun x y => x ≠ y) st (fun r => K a ls r s) (fun r => K (pc + 3) ls r s)
  | .if_icmp .ne _ => sx_b2 (fun x y => x ≠ y) (fun x y => x = y) st (fun r => K a ls r s) (fun r => K (pc + 3) ls r s)
  | .if_icmp .lt _ => sx_b2 (fun x y => x < y) (fun x y => y ≤ x) st (fun r => K a ls r s) (fun r => K (pc + 3) ls r s)
  | .if_icmp .ge _ => sx_b2 (fun x y => y ≤ x) (fun x y => x < y) st (fun r => K a ls r s) (fun r => K (pc + 3) ls r s)
  | .if_icmp .gt _ => sx_b2 (fun x y => y < x) (fun x y => x ≤ y) st (fun r => K a ls r s) (fun r => K (pc + 3) ls r s)
  | .if_icmp .le _ => sx_b2 (fun x y => x ≤ y) (fun x y => y < x) st (fun r => K a ls r s) (fun r => K (pc + 3) ls r s)
  | .goto _ => K a ls st s
  | .tableswitch dflt lo hi offs => match st with
    | .inl x :: r => sx_in x ∧ ((x < lo ∨ hi < x) → 0 ≤ (pc : Int) + dflt ∧ K ((pc : Int) + dflt).toNat ls r s) ∧ (hi - lo < offs.size ∧ sx_sw x lo pc (fun t => K t ls r s) offs.toList 0)
    | _ => False
  | .getstatic _ => K (pc + 3) ls (.inl 1 :: st) s
  | .getfield _ => sx_get wr a b st s (fun r => K (pc + 3) ls r s)
  | .putfield _ => sx_ptf a b st s (fun r t => K (pc + 3) ls r t)
  | .iaload => sx_ald wr sL sx st s (fun r => K (pc + 1) ls r s)
  | .iastore => sx_ast st s (fun r t => K (pc + 1) ls r t)
  | .baload => sx_zld wr st s (fun r => K (pc + 1) ls r s)
  | .bastore => sx_zst st s (fun r t => K (pc + 1) ls r t)
  | .arraylength => sx_len sL st (fun r => K (pc + 1) ls r s)
  | .newarray .int => sx_new st s (fun r t => K (pc + 2) ls r t)
  | .dup => sx_d1 st (fun r => K (pc + 1) ls r s)
  | .pop => sx_pop st (fun r => K (pc + 1) ls r s)
  | .dup_x1 => sx_dx1 st (fun r => K (pc + 1) ls r s)
  | .dup_x2 => sx_dx2 st (fun r => K (pc + 1) ls r s)
  | .dup2 => sx_d2 st (fun r => K (pc + 1) ls r s)
  | _ => False
/-! ===== the evaluator takes the step over integers ===== -/
theorem sx_toInt {z : Int} (h : sx_in z) : (Int32.ofInt z).toInt = z := Int32.toInt_ofInt_of_le h.1 (Int.lt_of_le_of_lt h.2 (by decide))
theorem sx_inj {x y : Int} (hx : sx_in x) (hy : sx_in y) : Int32.ofInt x = Int32.ofInt y ↔ x = y := ⟨fun h => by rw [← sx_toInt hx, ← sx_toInt hy, h], fun h => by rw [h]⟩
theorem sx_lt {x y : Int} (hx : sx_in x) (hy : sx_in y) : Int32.ofInt x < Int32.ofInt y ↔ x < y := by
  rw [Int32.lt_iff_toInt_lt, sx_toInt hx, sx_toInt hy]
theorem sx_le {x y : Int} (hx : sx_in x) (hy : sx_in y) : Int32.ofInt x ≤ Int32.ofInt y ↔ x ≤ y := by
  rw [Int32.le_iff_toInt_le, sx_toInt hx, sx_toInt hy]
theorem sx_in0 : sx_in 0 := ⟨by decide, by decide⟩
theorem sx_z0 : (0 : Int32) = Int32.ofInt 0 := rfl
theorem sx_nat {z : Int} (h0 : 0 ≤ z) (h1 : z < 2147483648) : (Int32.ofInt z).toNatClampNeg = z.toNat := by
  rw [← Int32.toNat_toInt, sx_toInt ⟨by omega, by omega⟩]
theorem sx_mxin {z : Int} {n : Nat} (h0 : 0 ≤ z) (h1 : z < (n : Int)) (hn : n ≤ 1000000) : mx_in (Int32.ofInt z) n = true := by
  unfold mx_in
  refine decide_eq_true ?_
  rintro (h | h)
  · rw [sx_z0, sx_lt ⟨by omega, by omega⟩ sx_in0] at h
    omega
  · rw [sx_nat h0 (by omega)] at h
    omega
theorem sx_n_of (z : Int) : Int32.ofInt (sx_n z) = Int32.ofInt z := by
  apply Int32.toInt_inj.mp
  rw [Int32.toInt_ofInt, Int32.toInt_ofInt]
  unfold sx_n
  show Int.bmod _ 4294967296 = Int.bmod z 4294967296
  rw [Int.bmod_def, Int.bmod_def]
  have e : ((z + 2147483648) % 4294967296 - 2147483648) % ((4294967296 : Nat) : Int) = z % ((4294967296 : Nat) : Int) := by
    show ((z + 2147483648) % 4294967296 - 2147483648) % 4294967296 = z % 4294967296
    omega
  rw [e]
theorem sx_w_of (wr : Bool) (z : Int) : Int32.ofInt (sx_w wr z) = Int32.ofInt z := by
  cases wr
  · rfl
  · exact sx_n_of z
theorem sx_n_in (z : Int) : sx_in (sx_n z) := by
  unfold sx_n sx_in
  omega
theorem sx_at_ed : ∀ (ls : sx_L) (i : Nat), mx_at (ls.map sx_ed) i = (sx_at ls i).map sx_e
  | [], _ => rfl
  | q :: l, i => by
    show cond (Nat.beq q.1 i) (some (sx_e q.2)) (mx_at (l.map sx_ed) i) = (cond (Nat.beq q.1 i) (some q.2) (sx_at l i)).map sx_e
    rw [sx_at_ed l i]
    cases Nat.beq q.1 i <;> rfl
theorem sx_e_cat (v : sx_V) : (sx_e v).category = 1 := by
  unfold sx_e
  split <;> rfl
theorem sx_rm_ed : ∀ (ls : sx_L) (i : Nat), (ls.map sx_ed).filter (mx_keep i) = (sx_rm ls i).map sx_ed
  | [], _ => rfl
  | q :: l, i => by
    have e : mx_keep i (sx_ed q) = !(Nat.beq q.1 i) := by
      unfold mx_keep sx_ed
      have : ((sx_e q.2).category == 2) = false := by rw [sx_e_cat]; rfl
      simp [this]
      by_cases h : q.1 = i
      · subst h; simp
      · have : Nat.beq q.1 i = false := by rw [← Bool.not_eq_true]; exact fun z => h (Nat.eq_of_beq_eq_true z)
        simp [h, this]
    rw [List.map_cons, List.filter_cons, e, sx_rm_ed l i]
    show _ = (cond (Nat.beq q.1 i) (sx_rm l i) (q :: sx_rm l i)).map sx_ed
    cases Nat.beq q.1 i <;> rfl
theorem sx_put_ed (ls : sx_L) (i : Nat) (v : sx_V) : mx_put (ls.map sx_ed) i (sx_e v) = (sx_put ls i v).map sx_ed := by
  unfold mx_put sx_put
  rw [sx_rm_ed]
  rfl
theorem sx_ob_at {s : sx_S} {i : Nat} {o : Nat × List Nat} (h : sx_ob i = some o) : sx_sh[i]? = some (.inl o) ∧ i < 125 := by
  unfold sx_ob at h
  split at h
  · rename_i o' hq
    cases h
    exact ⟨hq, by rw [← sx_sh_len]; exact (List.getElem?_eq_some_iff.mp hq).1⟩
  · cases h
theorem sx_ar_at {i : Nat} {a : Nat × Nat} (h : sx_ar i = some a) : sx_sh[i]? = some (.inr a) ∧ i < 125 := by
  unfold sx_ar at h
  split at h
  · rename_i o' hq
    cases h
    exact ⟨hq, by rw [← sx_sh_len]; exact (List.getElem?_eq_some_iff.mp hq).1⟩
  · cases h
/-- the table: lengths are small; a field that is an int or a boolean here is one there -/
theorem sx_sh_ok : sx_sh.all (fun x => match x with
  | .inl o => (List.range o.2.length).all (fun k => match o.2[k]? with
    | some 0 => decide (mx_ty o.1 k = .int)
    | some 1 => decide (mx_ty o.1 k = .boolean)
    | _ => true)
  | .inr a => Nat.ble a.2 1000000 && Nat.blt a.1 3) = true := by decide +kernel
theorem sx_ar_len {i : Nat} {a : Nat × Nat} (h : sx_ar i = some a) : a.2 ≤ 1000000 ∧ a.1 < 3 := by
  have h1 := List.all_eq_true.mp sx_sh_ok _ (List.mem_of_getElem? (sx_ar_at h).1)
  rw [Bool.and_eq_true] at h1
  exact ⟨Nat.ble_eq.mp h1.1, Nat.ble_eq.mp h1.2⟩
theorem sx_ob_ty {i k : Nat} {o : Nat × List Nat} (h : sx_ob i = some o) : (o.2[k]? = some 0 → mx_ty o.1 k = .int) ∧ (o.2[k]? = some 1 → mx_ty o.1 k = .boolean) := by
  have h1 := List.all_eq_true.mp sx_sh_ok _ (List.mem_of_getElem? (sx_ob_at (s := (fun _ _ => 0, fun _ _ => 0, fun _ _ => 0, 0)) h).1)
  refine ⟨fun hk => ?_, fun hk => ?_⟩
  · have h2 := List.all_eq_true.mp h1 k (List.mem_range.mpr (List.getElem?_eq_some_iff.mp hk).1)
    rw [hk] at h2
    exact of_decide_eq_true h2
  · have h2 := List.all_eq_true.mp h1 k (List.mem_range.mpr (List.getElem?_eq_some_iff.mp hk).1)
    rw [hk] at h2
    exact of_decide_eq_true h2
theorem sx_i8 {n : Int} (h : (decide (-128 ≤ n) && decide (n ≤ 127)) = true) : (Int8.ofInt n).toInt32 = Int32.ofInt n := by
  rw [Bool.and_eq_true] at h
  have a := of_decide_eq_true h.1
  have b := of_decide_eq_true h.2
  rw [← Int32.ofInt_int8ToInt, Int8.toInt_ofInt_of_le (by omega) (by omega)]
theorem sx_i16 {n : Int} (h : (decide (-32768 ≤ n) && decide (n ≤ 32767)) = true) : (Int16.ofInt n).toInt32 = Int32.ofInt n := by
  rw [Bool.and_eq_true] at h
  have a := of_decide_eq_true h.1
  have b := of_decide_eq_true h.2
  rw [← Int32.ofInt_int16ToInt, Int16.toInt_ofInt_of_le (by omega) (by omega)]
theorem sx_div {x y : Int} (hx : sx_in x) (hy : sx_in y) : Int32.ofInt (x.tdiv y) = Int32.ofInt x / Int32.ofInt y := by
  apply Int32.toInt_inj.mp
  rw [Int32.toInt_div, sx_toInt hx, sx_toInt hy, Int32.toInt_ofInt]
theorem sx_fz_ok {n : Nat} {k : Nat → Prop} (h : sx_fz n k) : k n := by
  cases n
  · exact h
  · exact h
theorem sx_ld_ok {wr : Bool} {i j : Nat} {b : Bool} {s : sx_S} {k : Int → Prop} (h : sx_ld wr i (cond b (cx_rng i j) (cx_arg i)) (cond b (s.1 i j) (s.2.1 i j)) s k) : k (cond b (s.1 i j) (s.2.1 i j)) := by
  unfold sx_ld at h
  by_cases hq : (wr && Nat.blt i 125) = true
  · rw [hq] at h
    dsimp only [cond] at h
    rw [Bool.and_eq_true] at hq
    have hi : i < 125 := Nat.ble_eq.mp hq.2
    cases b
    · have h1 : (cx_arg i).1 ≤ s.2.1 i j ∧ s.2.1 i j ≤ (cx_arg i).2 := h.1 1 i j hi
      exact h.2 _ rfl h1.1 h1.2
    · have h1 : (cx_rng i j).1 ≤ s.1 i j ∧ s.1 i j ≤ (cx_rng i j).2 := h.1 0 i j hi
      exact h.2 _ rfl h1.1 h1.2
  · rw [Bool.not_eq_true] at hq
    rw [hq] at h
    exact h
theorem sx_a_get {ci k pc i cj : Nat} {ls : List (Nat × Value)} {r : List Value} {hp : List va_E} {fs : List Value} {v : Value} (hi : hp[i]? = some (.inr (cj, fs))) (hq : Nat.beq cj ci = true) (hv : fs[k]? = some v) : mx_a_get ci k pc ls (.ref i :: r) hp = some (pc, ls, v :: r, hp, 0, 0) := by
  unfold mx_a_get
  dsimp only
  rw [hi]
  dsimp only
  rw [hq, hv]
  rfl
theorem sx_a_put {ci k pc i cj : Nat} {ls : List (Nat × Value)} {r : List Value} {hp : List va_E} {fs : List Value} {v : Value} (hi : hp[i]? = some (.inr (cj, fs))) (hq : Nat.beq cj ci = true) (hl : Nat.blt k fs.length = true) (hv : mx_fit (mx_ty ci k) v = true) : mx_a_put ci k pc ls (v :: .ref i :: r) hp = some (pc, ls, r, hp.set i (.inr (cj, fs.set k v)), 0, 0) := by
  unfold mx_a_put
  dsimp only
  rw [hi]
  dsimp only
  rw [hq, hl, hv]
  rfl
theorem sx_i2c_of (x : Int) : Int32.ofInt (x % 65536) = ((Int32.ofInt x).toUInt32 % 65536).toInt32 := by
  have h1 : (Int32.ofInt x).toUInt32.toNat = (x % 4294967296).toNat := by
    show (BitVec.ofInt 32 x).toNat = _
    rw [BitVec.toNat_ofInt]
    rfl
  have h2 : ((Int32.ofInt x).toUInt32 % 65536) = UInt32.ofNat (x % 65536).toNat := by
    apply UInt32.toNat_inj.mp
    rw [UInt32.toNat_mod, h1, UInt32.toNat_ofNat_of_lt' (by show (x % 65536).toNat < 4294967296; omega)]
    show (x % 4294967296).toNat % 65536 = _
    omega
  rw [h2]
  show _ = Int32.ofNat (x % 65536).toNat
  rw [← Int32.ofInt_eq_ofNat, Int.toNat_of_nonneg (by omega)]
theorem sx_i2b_of (x : Int) : Int32.ofInt ((x + 128) % 256 - 128) = (Int32.ofInt x).toInt8.toInt32 := by
  rw [Int32.toInt8_ofInt, ← Int32.ofInt_int8ToInt, Int8.toInt_ofInt]
  congr 1
  show _ = Int.bmod x 256
  rw [Int.bmod_def]
  show _ = if x % 256 < (256 + 1) / 2 then x % 256 else x % 256 - 256
  split <;> omega
theorem sx_g_and (x y : Int) : (0 : Int) ≤ y → y ≤ 2147483647 → 0 ≤ sx_b (fun x y => x &&& y) x y ∧ sx_b (fun x y => x &&& y) x y ≤ y := by
  intro hy hy2
  show 0 ≤ ((Int32.ofInt x).toBitVec &&& (Int32.ofInt y).toBitVec).toInt ∧ ((Int32.ofInt x).toBitVec &&& (Int32.ofInt y).toBitVec).toInt ≤ y
  have e : (Int32.ofInt y).toBitVec.toInt = y := sx_toInt ⟨by omega, hy2⟩
  have hb : (Int32.ofInt y).toBitVec.msb = false := by
    rw [BitVec.msb_eq_toInt, e]
    exact decide_eq_false (by omega)
  have hm : ((Int32.ofInt x).toBitVec &&& (Int32.ofInt y).toBitVec).msb = false := by
    rw [BitVec.msb_and, hb, Bool.and_false]
  have h1 := BitVec.toInt_eq_toNat_of_msb hb
  have h2 := BitVec.toInt_eq_toNat_of_msb hm
  rw [BitVec.toNat_and] at h2
  have h3 := Nat.and_le_right (n := (Int32.ofInt x).toBitVec.toNat) (m := (Int32.ofInt y).toBitVec.toNat)
  omega
theorem sx_g_or (x y : Int) : (0 : Int) ≤ x → x ≤ 1 → 0 ≤ y → y ≤ 1 → 0 ≤ sx_b (fun x y => x ||| y) x y ∧ sx_b (fun x y => x ||| y) x y ≤ 1 := by
  intro h1 h2 h3 h4
  rcases (show x = 0 ∨ x = 1 by omega) with rfl | rfl <;> rcases (show y = 0 ∨ y = 1 by omega) with rfl | rfl <;> decide
section SXO
variable {wr : Bool} {sL : Nat} {sx : Nat → Int32} {pc : Nat} {ls : sx_L} {st : List sx_V} {s : sx_S} {K : sx_K}
/-- what a step of the evaluator comes to -/
def sx_to (s : sx_S) (K : sx_K) (r : Option mx_Cf) : Prop := ∃ (pc' : Nat) (ls' : sx_L) (st' : List sx_V) (t : sx_S), r = some (pc', ls'.map sx_ed, st'.map sx_e, sx_hp t, t.2.2.2 - s.2.2.2, 8 * (t.2.2.2 - s.2.2.2)) ∧ (s.2.2.2 ≤ t.2.2.2 ∧ (t.2.2.2 = s.2.2.2 ∨ t.2.2.2 ≤ 500000)) ∧ K pc' ls' st' t
theorem sx_to0 {pc' : Nat} {ls' : sx_L} {st' : List sx_V} {r : Option mx_Cf} (h : K pc' ls' st' s) (hr : r = some (pc', ls'.map sx_ed, st'.map sx_e, sx_hp s, 0, 0)) : sx_to s K r := ⟨pc', ls', st', s, by rw [hr, Nat.sub_self], ⟨Nat.le_refl _, Or.inl rfl⟩, h⟩
theorem sx_to1 {pc' : Nat} {ls' : sx_L} {st' : List sx_V} {t : sx_S} {r : Option mx_Cf} (hw : t.2.2.2 = s.2.2.2) (h : K pc' ls' st' t) (hr : r = some (pc', ls'.map sx_ed, st'.map sx_e, sx_hp t, 0, 0)) : sx_to s K r := ⟨pc', ls', st', t, by rw [hr, hw, Nat.sub_self], ⟨Nat.le_of_eq hw.symm, Or.inl hw⟩, h⟩
theorem sx_o_li {i pc1 : Nat} (h : sx_li i ls (fun v => K pc1 ls (v :: st) s)) : sx_to s K (mx_a_li pc1 i (ls.map sx_ed) (st.map sx_e) (sx_hp s)) := by
  unfold sx_li at h
  split at h
  · rename_i x hx
    refine sx_to0 h ?_
    unfold mx_a_li
    rw [sx_at_ed, hx]
    rfl
  · exact h.elim
theorem sx_o_la {i pc1 : Nat} (h : sx_la i ls (fun v => K pc1 ls (v :: st) s)) : sx_to s K (mx_a_la pc1 i (ls.map sx_ed) (st.map sx_e) (sx_hp s)) := by
  unfold sx_la at h
  split at h
  · rename_i x hx
    refine sx_to0 h ?_
    unfold mx_a_la
    rw [sx_at_ed, hx]
    cases x <;> rfl
  · exact h.elim
theorem sx_o_si {i pc1 : Nat} (h : sx_si st (fun v r => K pc1 (sx_put ls i v) r s)) : sx_to s K (mx_a_si pc1 i (ls.map sx_ed) (st.map sx_e) (sx_hp s)) := by
  unfold sx_si at h
  split at h
  · rename_i x r
    refine sx_to0 h ?_
    rw [← sx_put_ed]
    rfl
  · exact h.elim
theorem sx_o_sa {i pc1 : Nat} (h : sx_sa st (fun v r => K pc1 (sx_put ls i v) r s)) : sx_to s K (mx_a_sa pc1 i (ls.map sx_ed) (st.map sx_e) (sx_hp s)) := by
  unfold sx_sa at h
  split at h
  · rename_i x r
    refine sx_to0 h ?_
    rw [← sx_put_ed]
    cases x <;> rfl
  · exact h.elim
theorem sx_o_1 {f : Int → Int} {g : Int32 → Int32} {pc1 : Nat} (hfg : ∀ x, Int32.ofInt (f x) = g (Int32.ofInt x)) (h : sx_1 f st (fun r => K pc1 ls r s)) : sx_to s K (mx_a_1 g pc1 (ls.map sx_ed) (st.map sx_e) (sx_hp s)) := by
  unfold sx_1 at h
  split at h
  · rename_i x r
    refine sx_to0 h ?_
    show some (_, _, Value.int (g (Int32.ofInt x)) :: _, _) = some (_, _, Value.int (Int32.ofInt (f x)) :: _, _)
    rw [hfg]
  · exact h.elim
theorem sx_o_2 {f : Int → Int → Int} {g : Int32 → Int32 → Int32} {pc1 : Nat} (hfg : ∀ x y, Int32.ofInt (f x y) = g (Int32.ofInt x) (Int32.ofInt y)) (h : sx_2 f st (fun r => K pc1 ls r s)) : sx_to s K (mx_a_2 g pc1 (ls.map sx_ed) (st.map sx_e) (sx_hp s)) := by
  unfold sx_2 at h
  split at h
  · rename_i y x r
    refine sx_to0 h ?_
    show some (_, _, Value.int (g (Int32.ofInt x) (Int32.ofInt y)) :: _, _) = some (_, _, Value.int (Int32.ofInt (f x y)) :: _, _)
    rw [hfg]
  · exact h.elim
theorem sx_o_2b {f : Int32 → Int32 → Int32} {g : Int → Int → Int → Prop} {pc1 : Nat} (hg : ∀ x y, g x y (sx_b f x y)) (h : sx_2b f g st (fun r => K pc1 ls r s)) : sx_to s K (mx_a_2 f pc1 (ls.map sx_ed) (st.map sx_e) (sx_hp s)) := by
  unfold sx_2b at h
  split at h
  · rename_i y x r
    have h1 := Int32.le_toInt (f (Int32.ofInt x) (Int32.ofInt y))
    have h2 := Int32.toInt_lt (f (Int32.ofInt x) (Int32.ofInt y))
    refine sx_to0 (h.2 _ rfl h1 (by unfold sx_b; omega) (hg x y)) ?_
    show some (_, _, Value.int (f (Int32.ofInt x) (Int32.ofInt y)) :: _, _) = some (_, _, Value.int (Int32.ofInt (sx_b f x y)) :: _, _)
    unfold sx_b
    rw [Int32.ofInt_toInt]
  · exact h.elim
theorem sx_o_2d {f : Int → Int → Int} {g : Int32 → Int32 → Int32} {pc1 : Nat} (hfg : ∀ x y, sx_in x → sx_in y → Int32.ofInt (f x y) = g (Int32.ofInt x) (Int32.ofInt y)) (h : sx_2d wr f st (fun r => K pc1 ls r s)) : sx_to s K (mx_a_2n g pc1 (ls.map sx_ed) (st.map sx_e) (sx_hp s)) := by
  unfold sx_2d at h
  split at h
  · rename_i y x r
    cases wr with
    | false =>
      obtain ⟨⟨⟨hx, hy⟩, h0⟩, hk⟩ := h
      refine sx_to0 hk ?_
      show cond (decide (Int32.ofInt y = 0)) none (some (_, _, Value.int (g (Int32.ofInt x) (Int32.ofInt y)) :: _, _)) = some (_, _, Value.int (Int32.ofInt (f x y)) :: _, _)
      rw [decide_eq_false (by rw [sx_z0, sx_inj hy sx_in0]; exact h0), hfg x y hx hy]
      rfl
    | true =>
      obtain ⟨⟨⟨hx, hy⟩, h0⟩, hk⟩ := h
      refine sx_to0 (hk _ rfl (sx_n_in _).1 (sx_n_in _).2) ?_
      show cond (decide (Int32.ofInt y = 0)) none (some (_, _, Value.int (g (Int32.ofInt x) (Int32.ofInt y)) :: _, _)) = some (_, _, Value.int (Int32.ofInt (sx_n (f x y))) :: _, _)
      rw [decide_eq_false (by rw [sx_z0, sx_inj hy sx_in0]; exact h0), sx_n_of, hfg x y hx hy]
      rfl
  · exact h.elim
theorem sx_o_b1 {P Q : Int → Prop} {t : Int32 → Bool} {tgt pc1 : Nat} (ht : ∀ x, sx_in x → (t (Int32.ofInt x) = true → P x) ∧ (t (Int32.ofInt x) = false → Q x)) (h : sx_b1 P Q st (fun r => K tgt ls r s) (fun r => K pc1 ls r s)) : sx_to s K (mx_a_b1 t tgt pc1 (ls.map sx_ed) (st.map sx_e) (sx_hp s)) := by
  unfold sx_b1 at h
  split at h
  · rename_i x r
    obtain ⟨hx, h1, h2⟩ := h
    obtain ⟨a1, a2⟩ := ht x hx
    cases hq : t (Int32.ofInt x) with
    | true =>
      refine sx_to0 (h1 (a1 hq)) ?_
      show some (cond (t (Int32.ofInt x)) tgt pc1, _) = _
      rw [hq]; rfl
    | false =>
      refine sx_to0 (h2 (a2 hq)) ?_
      show some (cond (t (Int32.ofInt x)) tgt pc1, _) = _
      rw [hq]; rfl
  · exact h.elim
theorem sx_o_b2 {P Q : Int → Int → Prop} {t : Int32 → Int32 → Bool} {tgt pc1 : Nat} (ht : ∀ x y, sx_in x → sx_in y → (t (Int32.ofInt x) (Int32.ofInt y) = true → P x y) ∧ (t (Int32.ofInt x) (Int32.ofInt y) = false → Q x y)) (h : sx_b2 P Q st (fun r => K tgt ls r s) (fun r => K pc1 ls r s)) : sx_to s K (mx_a_b2 t tgt pc1 (ls.map sx_ed) (st.map sx_e) (sx_hp s)) := by
  unfold sx_b2 at h
  split at h
  · rename_i y x r
    obtain ⟨⟨hx, hy⟩, h1, h2⟩ := h
    obtain ⟨a1, a2⟩ := ht x y hx hy
    cases hq : t (Int32.ofInt x) (Int32.ofInt y) with
    | true =>
      refine sx_to0 (h1 (a1 hq)) ?_
      show some (cond (t (Int32.ofInt x) (Int32.ofInt y)) tgt pc1, _) = _
      rw [hq]; rfl
    | false =>
      refine sx_to0 (h2 (a2 hq)) ?_
      show some (cond (t (Int32.ofInt x) (Int32.ofInt y)) tgt pc1, _) = _
      rw [hq]; rfl
  · exact h.elim
theorem sx_o_get {ci k pc1 : Nat} (h : sx_get wr ci k st s (fun r => K pc1 ls r s)) : sx_to s K (cond (Nat.beq ci 13) (mx_a_sget k pc1 (ls.map sx_ed) (st.map sx_e) (sx_hp s)) (mx_a_get ci k pc1 (ls.map sx_ed) (st.map sx_e) (sx_hp s))) := by
  unfold sx_get at h
  split at h
  · rename_i i r
    cases hc : Nat.beq ci 13 with
    | true =>
      rw [hc] at h
      dsimp only [cond] at h ⊢
      cases hS : mx_isS i with
      | false => rw [hS] at h; exact h.elim
      | true =>
        rw [hS] at h
        cases hk : Nat.beq k 0 with
        | true =>
          rw [hk] at h
          refine sx_to0 h ?_
          show cond (mx_isS i) (cond (Nat.beq k 0) (some (_, _, Value.ref (i + 1) :: _, _)) _) none = _
          rw [hS, hk]; rfl
        | false =>
          rw [hk] at h
          refine sx_to0 h ?_
          show cond (mx_isS i) (cond (Nat.beq k 0) _ (some (_, _, Value.int 0 :: _, _))) none = _
          rw [hS, hk]; rfl
    | false =>
      rw [hc] at h
      dsimp only [cond] at h ⊢
      split at h
      · rename_i o ho
        have hat := (sx_ob_at (s := s) ho).1
        cases hq : Nat.beq o.1 ci with
        | false => rw [hq] at h; exact h.elim
        | true =>
          rw [hq] at h
          dsimp only at h
          have fin : ∀ v : sx_V, (o.2.mapIdx (fun k kd => sx_fv (s.1 i) k kd))[k]? = some (sx_e v) → K pc1 ls (v :: r) s → sx_to s K (mx_a_get ci k pc1 (ls.map sx_ed) ((Sum.inr (Sum.inl i) :: r).map sx_e) (sx_hp s)) := by
            intro v hv hk
            refine sx_to0 hk ?_
            exact sx_a_get (sx_hp_at hat) hq hv
          split at h
          · rename_i hk
            exact fin (.inl (s.1 i k)) (by rw [List.getElem?_mapIdx, hk]; rfl) (sx_ld_ok (b := true) h)
          · rename_i hk
            exact fin (.inl (s.1 i k)) (by rw [List.getElem?_mapIdx, hk]; rfl) (sx_ld_ok (b := true) h)
          · rename_i q hk
            exact fin _ (by rw [List.getElem?_mapIdx, hk]; rfl) h
          · exact h.elim
      · exact h.elim
  · exact h.elim
theorem sx_o_ptf {ci k pc1 : Nat} (h : sx_ptf ci k st s (fun r t => K pc1 ls r t)) : sx_to s K (mx_a_put ci k pc1 (ls.map sx_ed) (st.map sx_e) (sx_hp s)) := by
  unfold sx_ptf at h
  split at h
  · rename_i v i r
    split at h
    · rename_i o ho
      obtain ⟨hat, hN⟩ := sx_ob_at (s := s) ho
      cases hq : Nat.beq o.1 ci with
      | false => rw [hq] at h; exact h.elim
      | true =>
        rw [hq] at h
        dsimp only [cond] at h
        have eci : o.1 = ci := Nat.eq_of_beq_eq_true hq
        have fin : ∀ kd, o.2[k]? = some kd → kd < 2 → mx_fit (mx_ty ci k) (.int (Int32.ofInt v)) = true → K pc1 ls r (sx_uf s.1 i k v, s.2) → sx_to s K (mx_a_put ci k pc1 (ls.map sx_ed) ((Sum.inl v :: Sum.inr (Sum.inl i) :: r).map sx_e) (sx_hp s)) := by
          intro kd hk hkd hfit hK
          refine sx_to1 (t := (sx_uf s.1 i k v, s.2)) rfl hK ?_
          have hlt : Nat.blt k (o.2.mapIdx (fun k kd => sx_fv (s.1 i) k kd)).length = true := by
            rw [List.length_mapIdx]
            exact Nat.ble_eq.mpr (List.getElem?_eq_some_iff.mp hk).1
          refine (sx_a_put (r := r.map sx_e) (sx_hp_at hat) hq hlt hfit).trans ?_
          rw [sx_hp_ext (s := s) (t := (sx_uf s.1 i k v, s.2)) rfl (fun x hx => ?_) hN (fun q hq => ⟨sx_fv_ne hq, rfl⟩) rfl]
          cases hat.symm.trans hx
          unfold sx_cell
          rw [sx_fs_set s.1 i k v o.2 hk hkd]
        split at h
        · rename_i hk
          refine fin 0 hk (by decide) ?_ h
          rw [← eci, (sx_ob_ty ho).1 hk]; rfl
        · rename_i hk
          refine fin 1 hk (by decide) ?_ h.2
          rw [← eci, (sx_ob_ty ho).2 hk]
          rcases h.1 with rfl | rfl <;> rfl
        · exact h.elim
    · exact h.elim
  · exact h.elim
end SXO
