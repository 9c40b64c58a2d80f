section
/-! ===== the desk's answers: settle; narrow ===== -/
theorem w_dv_set {CALL : sx_Ca} {sL : Nat} {sx : Nat → Int32} {Q : Nat → sx_L → sx_S → Prop} {R : Int → sx_S → Prop} {s : sx_S} {a0 a1 : Int} (hI : cx_I s) (p0 : -2147483648 ≤ a0 ∧ a0 ≤ 2147483647) (p1 : -2147483648 ≤ a1 ∧ a1 ≤ 2147483647) (hQ : Q 12 [(0, .inr (.inl 33)), (3, .inl 0)] (sx_uf (sx_uf s.1 33 7 a0) 33 8 a1, s.2)) : sx_wp true sL sx eX0_settle CALL [(12, [0, 3])] Q R 400 0 (sx_argsF 0 [.inr (.inl 33), .inl a0, .inl a1]) [] s := by
  repeat' (first | (with_reducible (rintro _ rfl)) | (with_reducible intro _) | (refine And.intro ?_ ?_))
  all_goals (try dsimp only at *)
  all_goals (first | trivial | assumption | omega | (exfalso; omega) | skip)
theorem w_dv_set12 {CALL : sx_Ca} {sL : Nat} {sx : Nat → Int32} {Q : Nat → sx_L → sx_S → Prop} {R : Int → sx_S → Prop} (h_kind : ∀ (a0 : Int) (s : sx_S) (K : Int → sx_S → Prop), cx_I s → (-2147483648 ≤ a0 ∧ a0 ≤ 2147483647) → (∀ z : Int, (0 ≤ a0 → a0 < s.1 11 6 → z = s.2.1 12 a0.toNat) → (a0 < 0 → z = -1) → K z s) → CALL 91 [.inr (.inl 11), .inl a0] s K) (h_head : ∀ (a0 : Int) (s : sx_S) (K : Int → sx_S → Prop), cx_I s → (-2147483648 ≤ a0 ∧ a0 ≤ 2147483647) → (∀ z : Int, (0 ≤ a0 → a0 < s.1 11 6 → z = s.2.1 13 a0.toNat) → (a0 < 0 → z = -1) → K z s) → CALL 92 [.inr (.inl 11), .inl a0] s K) (h_body : ∀ (a0 : Int) (s : sx_S) (K : Int → sx_S → Prop), cx_I s → (-2147483648 ≤ a0 ∧ a0 ≤ 2147483647) → (∀ z : Int, (0 ≤ a0 → a0 < s.1 33 6 → z = s.2.1 34 a0.toNat) → (a0 < 0 → z = -1) → K z s) → CALL 4 [.inr (.inl 33), .inl a0] s K) {s : sx_S} {x3 y z k m b : Int} {G : Int → sx_S → Prop} (h_ins : y = 3 → 0 ≤ b → ∀ K : Int → sx_S → Prop, (∀ k' t, G k' t → K k' t) → CALL 6 [.inr (.inl 33), .inl z, .inl k] s K) (hG : ∀ k' t, G k' t → cx_I t ∧ -2147483648 ≤ k' ∧ k' ≤ 2147483647) (hI : cx_I s) (e7 : s.1 33 7 = z) (e8 : s.1 33 8 = k) (pz : 0 ≤ z ∧ z < s.1 11 6) (ey : s.2.1 12 z.toNat = y) (em : s.2.1 13 z.toNat = m) (pm : y = 3 → 0 ≤ m ∧ m < s.1 33 6) (eb : y = 3 → s.2.1 34 m.toNat = b) (q3 : 0 ≤ x3 ∧ x3 ≤ 32) (hK : 32 ≤ x3 ∨ y ≠ 3 ∨ b < 0 → R 0 s) (hQ : x3 < 32 → y = 3 → 0 ≤ b → ∀ k' t, G k' t → cx_I (sx_uf (sx_uf t.1 33 8 k') 33 7 b, t.2) → Q 12 [(0, .inr (.inl 33)), (3, .inl (x3 + 1))] (sx_uf (sx_uf t.1 33 8 k') 33 7 b, t.2)) : sx_wp true sL sx eX0_settle CALL [(12, [0, 3])] Q R 400 12 [(0, .inr (.inl 33)), (3, .inl x3)] [] s := by
  have h0 := hI.fld 11 6 (by decide) rfl
  have h33 := hI.fld 33 6 (by decide) rfl
  have h34 := hI.arr 34 (by decide) rfl m.toNat
  have h13 := hI.arr 13 (by decide) rfl z.toNat
  have h12 := hI.arr 12 (by decide) rfl z.toNat
  have zzy : sx_w true (x3 + 1) = x3 + 1 := px_wid (by omega) (by omega)
  have hbr : y = 3 → -2147483648 ≤ b ∧ b ≤ 2147483647 := fun h => by rw [← eb h]; exact h34
  repeat' (first | (with_reducible (rintro _ rfl)) | (with_reducible intro _) | (refine And.intro ?_ ?_) | (rw [e7]; refine h_kind _ _ _ hI (by omega) (fun v v1 v2 => ?_); obtain rfl : v = y := (v1 pz.1 pz.2).trans ey) | (rw [e7]; refine h_head _ _ _ hI (by omega) (fun v v1 v2 => ?_); obtain rfl : v = m := (v1 pz.1 pz.2).trans em) | (refine h_body _ _ _ hI (by omega) (fun v v1 v2 => ?_); obtain rfl : v = b := (v1 (pm (by omega)).1 (pm (by omega)).2).trans (eb (by omega))) | (rw [e7, e8]; refine h_ins (by omega) (by omega) _ (fun k' t ht => ?_)))
  all_goals (try dsimp only at *)
  all_goals (first | trivial | assumption | omega | (exfalso; omega) | (exact hK (by omega)) | (have zz8 := hbr (by omega); omega) | (obtain ⟨g1, g2, g3⟩ := hG _ _ ht; have zz9 := hQ (by omega) (by omega) (by omega) _ _ ht (cx_I_uf rfl rfl (cx_I_uf rfl rfl g1 (by omega) (by omega)) (by omega) (by omega)); rw [← zzy] at zz9; exact zz9) | skip)
theorem c_dv_set {sL : Nat} {sx : Nat → Int32} (hsL : sL ≤ 3072) (d : Nat) (hd : 4 ≤ d) : ∀ (a0 a1 : Int) (s : sx_S) (K : Int → sx_S → Prop) (J : Nat → Int → Int → sx_S → Prop), J 32 a0 a1 s → (∀ n z k u, J n z k u → cx_I u ∧ (0 ≤ z ∧ z < u.1 11 6) ∧ (-2147483648 ≤ k ∧ k ≤ 2147483647)) → (∀ n z k u v w, J n z k u → (-2147483648 ≤ v ∧ v ≤ 2147483647) → (-2147483648 ≤ w ∧ w ≤ 2147483647) → J n z k (sx_uf (sx_uf u.1 33 7 v) 33 8 w, u.2) ∧ J n z k (sx_uf (sx_uf u.1 33 8 v) 33 7 w, u.2)) → (∀ n z k u, J n z k u → u.2.1 12 z.toNat = 3 → (0 ≤ u.2.1 13 z.toNat ∧ u.2.1 13 z.toNat < u.1 33 6) ∧ (0 ≤ u.2.1 34 (u.2.1 13 z.toNat).toNat → ∃ n', n = n' + 1 ∧ ∀ G : Int → sx_S → Prop, (∀ k' t, J n' (u.2.1 34 (u.2.1 13 z.toNat).toNat) k' t → G k' t) → sx_C sL sx (d - 1) 6 [.inr (.inl 33), .inl z, .inl k] u G)) → (∀ n z k u, J n z k u → u.1 33 7 = z → u.1 33 8 = k → (u.2.1 12 z.toNat = 3 → u.2.1 34 (u.2.1 13 z.toNat).toNat < 0) → K 0 u) → sx_C sL sx d 5 [.inr (.inl 33), .inl a0, .inl a1] s K := by
  intro a0 a1 s K J j0 j1 j2 j3 hK
  obtain ⟨d, rfl⟩ : ∃ e, d = e + 2 := ⟨d - 2, by omega⟩
  obtain ⟨hI, r0, r1⟩ := j1 _ _ _ _ j0
  have h0 := hI.fld 11 6 (by decide) rfl
  refine sx_methL (wr := true) (n := 400) (n' := 400) (stop := [(12, [0, 3])]) (fun nn pc ls u => pc = 12 ∧ ∃ (z k : Int) (x3 : Nat), ls = [(0, .inr (.inl 33)), (3, .inl (x3 : Int))] ∧ J nn z k u ∧ (u.1 33 7 = z ∧ u.1 33 8 = k) ∧ nn + x3 = 32) hsL (e := eX0_settle) rfl ?_ ?_
  · exact w_dv_set hI (by omega) r1 ⟨32, rfl, a0, a1, 0, rfl, (j2 _ _ _ _ _ _ j0 (by omega) r1).1, ⟨by show sx_uf (sx_uf s.1 33 7 a0) 33 8 a1 33 7 = a0; rw [sx_uf_if, if_neg (by omega), px_us], by show sx_uf (sx_uf s.1 33 7 a0) 33 8 a1 33 8 = a1; rw [px_us]⟩, rfl⟩
  · rintro nn pc ls u ⟨rfl, z, k, x3, rfl, i1, ⟨i2, i3⟩, i4⟩
    obtain ⟨kI, k0, k1⟩ := j1 _ _ _ _ i1
    by_cases hy : u.2.1 12 z.toNat = 3
    · obtain ⟨m1, m2⟩ := j3 _ _ _ _ i1 hy
      by_cases hb : 0 ≤ u.2.1 34 (u.2.1 13 z.toNat).toNat
      · obtain ⟨n', en, m3⟩ := m2 hb
        refine w_dv_set12 (z := z) (k := k) (G := fun k' t => J n' (u.2.1 34 (u.2.1 13 z.toNat).toNat) k' t) (c_dz_kind hsL (d + 1) (by omega)) (c_dz_head hsL (d + 1) (by omega)) (c_dv_body hsL (d + 1) (by omega)) (fun _ _ G hG => m3 G hG) (fun k' t ht => ?_) kI i2 i3 k0 rfl rfl (fun _ => m1) (fun _ => rfl) (by omega) (fun h => ?_) (fun _ _ _ k' t ht _ => ?_)
        · obtain ⟨a, _, b⟩ := j1 _ _ _ _ ht
          exact ⟨a, b.1, b.2⟩
        · exact absurd h (by omega)
        · obtain ⟨y1, y2, y3⟩ := j1 _ _ _ _ ht
          have y4 := y1.fld 11 6 (by decide) rfl
          exact ⟨n', by omega, rfl, u.2.1 34 (u.2.1 13 z.toNat).toNat, k', x3 + 1, rfl, (j2 _ _ _ _ _ _ ht y3 (by omega)).2, ⟨by show sx_uf (sx_uf t.1 33 8 k') 33 7 (u.2.1 34 (u.2.1 13 z.toNat).toNat) 33 7 = _; rw [px_us], by show sx_uf (sx_uf t.1 33 8 k') 33 7 (u.2.1 34 (u.2.1 13 z.toNat).toNat) 33 8 = _; rw [sx_uf_if, if_neg (by omega), px_us]⟩, by omega⟩
      · refine w_dv_set12 (z := z) (k := k) (G := fun _ _ => False) (c_dz_kind hsL (d + 1) (by omega)) (c_dz_head hsL (d + 1) (by omega)) (c_dv_body hsL (d + 1) (by omega)) (fun _ h => absurd h hb) (fun _ _ h => h.elim) kI i2 i3 k0 rfl rfl (fun _ => m1) (fun _ => rfl) (by omega) (fun _ => hK _ _ _ _ i1 i2 i3 (fun _ => by omega)) (fun _ _ h => absurd h hb)
    · exact w_dv_set12 (z := z) (k := k) (b := 0) (G := fun _ _ => False) (c_dz_kind hsL (d + 1) (by omega)) (c_dz_head hsL (d + 1) (by omega)) (c_dv_body hsL (d + 1) (by omega)) (fun h => absurd h hy) (fun _ _ h => h.elim) kI i2 i3 k0 rfl rfl (fun h => absurd h hy) (fun h => absurd h hy) (by omega) (fun _ => hK _ _ _ _ i1 i2 i3 (fun h => absurd h hy)) (fun _ h => absurd h hy)
end
section
/-! ===== sets of ARGs as numbers ===== -/
abbrev dv_and (x y : Int) : Int := sx_b (fun x y => x &&& y) x y
abbrev dv_or (x y : Int) : Int := sx_b (fun x y => x ||| y) x y
abbrev dv_shl (x y : Int) : Int := sx_b (fun x y => x <<< (y &&& 31)) x y
def dv_tb (k : Int) (j : Nat) : Bool := Nat.testBit k.toNat j
theorem dv_d1 : ∀ j : Fin 5, dv_shl 1 (j.val : Int) = ((2 ^ j.val : Nat) : Int) := by decide
theorem dv_d2 : ∀ k : Fin 32, ∀ j : Fin 5, (dv_and (k.val : Int) ((2 ^ j.val : Nat) : Int) = 0 ↔ Nat.testBit k.val j.val = false) := by decide
theorem dv_d3 : ∀ j : Fin 5, ∀ k : Fin 16, k.val < 2 ^ j.val → dv_or (k.val : Int) ((2 ^ j.val : Nat) : Int) = ((k.val + 2 ^ j.val : Nat) : Int) := by decide
theorem dv_d4 : ∀ k : Fin 32, dv_or (k.val : Int) 0 = (k.val : Int) := by decide
theorem dv_d5 : ∀ j : Fin 5, ∀ k : Fin 16, ∀ i : Fin 5, k.val < 2 ^ j.val → Nat.testBit (k.val + 2 ^ j.val) i.val = (decide (i.val = j.val) || Nat.testBit k.val i.val) := by decide
theorem dv_d6 : ∀ k l : Fin 32, (∀ i : Fin 5, Nat.testBit k.val i.val = Nat.testBit l.val i.val) → k = l := by decide
theorem dv_d7 : ∀ k l : Fin 32, ∃ m : Fin 32, dv_and (k.val : Int) (l.val : Int) = (m.val : Int) ∧ ∀ i : Fin 5, Nat.testBit m.val i.val = (Nat.testBit k.val i.val && Nat.testBit l.val i.val) := by decide
theorem dv_d8 : ∀ n : Fin 5, ∀ i : Fin 5, Nat.testBit (2 ^ n.val - 1) i.val = decide (i.val < n.val) := by decide
theorem dv_shl1 {j : Nat} (h : j < 5) : dv_shl 1 (j : Int) = ((2 ^ j : Nat) : Int) := dv_d1 ⟨j, h⟩
/-- whether j is in the set k -/
theorem dv_bit {k : Int} {j : Nat} (h0 : 0 ≤ k) (h1 : k < 32) (hj : j < 5) : dv_and k (dv_shl 1 (j : Int)) = 0 ↔ dv_tb k j = false := by
  have := dv_d2 ⟨k.toNat, by omega⟩ ⟨j, hj⟩
  rw [dv_shl1 hj]
  have e : ((k.toNat : Nat) : Int) = k := Int.toNat_of_nonneg h0
  rw [e] at this
  exact this
/-- one more -/
theorem dv_add {k : Int} {j : Nat} (h0 : 0 ≤ k) (hj : j < 4) (h1 : k < ((2 ^ j : Nat) : Int)) : dv_or k (dv_shl 1 (j : Int)) = k + ((2 ^ j : Nat) : Int) ∧ k + ((2 ^ j : Nat) : Int) < ((2 ^ (j + 1) : Nat) : Int) ∧ ∀ i, i < 5 → dv_tb (k + ((2 ^ j : Nat) : Int)) i = (decide (i = j) || dv_tb k i) := by
  have p : (2 : Nat) ^ j ≤ 8 := by
    have : j = 0 ∨ j = 1 ∨ j = 2 ∨ j = 3 := by omega
    rcases this with rfl | rfl | rfl | rfl <;> decide
  have p' : (2 : Nat) ^ (j + 1) = 2 * 2 ^ j := Nat.pow_succ'
  have e : ((k.toNat : Nat) : Int) = k := Int.toNat_of_nonneg h0
  have hk : k.toNat < 2 ^ j := by omega
  have a := dv_d3 ⟨j, by omega⟩ ⟨k.toNat, by omega⟩ hk
  rw [dv_shl1 (by omega)]
  dsimp only at a
  rw [e] at a
  refine ⟨by rw [a]; omega, by omega, fun i hi => ?_⟩
  have b := dv_d5 ⟨j, by omega⟩ ⟨k.toNat, by omega⟩ ⟨i, hi⟩ hk
  unfold dv_tb
  rw [show (k + ((2 ^ j : Nat) : Int)).toNat = k.toNat + 2 ^ j by omega]
  exact b
theorem dv_or0 {k : Int} (h0 : 0 ≤ k) (h1 : k < 32) : dv_or k 0 = k := by
  have := dv_d4 ⟨k.toNat, by omega⟩
  have e : ((k.toNat : Nat) : Int) = k := Int.toNat_of_nonneg h0
  dsimp only at this
  rw [e] at this
  exact this
theorem dv_tb_hi {k : Int} {j i : Nat} (h1 : k < ((2 ^ j : Nat) : Int)) (hi : j ≤ i) : dv_tb k i = false := by
  unfold dv_tb
  have : k.toNat < 2 ^ j := by
    have := Nat.one_le_two_pow (n := j)
    omega
  exact Nat.testBit_lt_two_pow (Nat.lt_of_lt_of_le this (Nat.pow_le_pow_right (by decide) hi))
/-- the same set -/
theorem dv_tb_eq {k l : Int} (h0 : 0 ≤ k) (h1 : k < 32) (g0 : 0 ≤ l) (g1 : l < 32) (h : ∀ i, i < 5 → dv_tb k i = dv_tb l i) : k = l := by
  have := dv_d6 ⟨k.toNat, by omega⟩ ⟨l.toNat, by omega⟩ (fun i => h i.val i.isLt)
  have := congrArg Fin.val this
  dsimp only at this
  omega
theorem dv_tb_and {k l : Int} (h0 : 0 ≤ k) (h1 : k < 32) (g0 : 0 ≤ l) (g1 : l < 32) : (0 ≤ dv_and k l ∧ dv_and k l < 32) ∧ ∀ i, i < 5 → dv_tb (dv_and k l) i = (dv_tb k i && dv_tb l i) := by
  obtain ⟨m, m1, m2⟩ := dv_d7 ⟨k.toNat, by omega⟩ ⟨l.toNat, by omega⟩
  have e : ((k.toNat : Nat) : Int) = k := Int.toNat_of_nonneg h0
  have e' : ((l.toNat : Nat) : Int) = l := Int.toNat_of_nonneg g0
  dsimp only at m1
  rw [e, e'] at m1
  rw [m1]
  refine ⟨by omega, fun i hi => ?_⟩
  unfold dv_tb
  rw [show ((m.val : Int)).toNat = m.val by omega]
  exact m2 ⟨i, hi⟩
/-- all of n -/
theorem dv_tb_all {n i : Nat} (hn : n < 5) (hi : i < 5) : dv_tb (((2 ^ n : Nat) : Int) - 1) i = decide (i < n) := by
  have := dv_d8 ⟨n, hn⟩ ⟨i, hi⟩
  unfold dv_tb
  rw [show (((2 ^ n : Nat) : Int) - 1).toNat = 2 ^ n - 1 by omega]
  exact this
/-- the ARGs in the set: (variable, which one); i: the number of the first -/
def dv_kp (k : Int) : Nat → List Int → List (Int × Int)
  | _, [] => []
  | i, h :: r => if dv_tb k i then (h, (i : Int)) :: dv_kp k (i + 1) r else dv_kp k (i + 1) r
theorem dv_kp_c (k : Int) (i : Nat) (h : Int) (r : List Int) : dv_kp k i (h :: r) = if dv_tb k i then (h, (i : Int)) :: dv_kp k (i + 1) r else dv_kp k (i + 1) r := rfl
theorem dv_kp_snoc {k : Int} {h : Int} : ∀ {l : List Int} {i : Nat}, dv_kp k i (l ++ [h]) = dv_kp k i l ++ (if dv_tb k (i + l.length) then [(h, ((i + l.length : Nat) : Int))] else [])
  | [], i => by
    show dv_kp k i [h] = [] ++ _
    rw [dv_kp_c, List.nil_append]
    rfl
  | x :: l, i => by
    have ih := dv_kp_snoc (k := k) (h := h) (l := l) (i := i + 1)
    rw [List.cons_append, dv_kp_c, dv_kp_c, ih, List.length_cons, show i + 1 + l.length = i + (l.length + 1) by omega]
    by_cases b : dv_tb k i = true
    · rw [if_pos b, if_pos b]
      rfl
    · rw [if_neg b, if_neg b]
theorem dv_kp_mem {k : Int} {q : Int × Int} : ∀ {l : List Int} {i : Nat}, q ∈ dv_kp k i l ↔ ∃ j : Nat, l[j]? = some q.1 ∧ q.2 = ((i + j : Nat) : Int) ∧ dv_tb k (i + j) = true
  | [], i => ⟨fun h => absurd h List.not_mem_nil, fun ⟨j, h, _⟩ => by simp at h⟩
  | x :: l, i => by
    have ih := dv_kp_mem (k := k) (q := q) (l := l) (i := i + 1)
    have up : (∃ j : Nat, l[j]? = some q.1 ∧ q.2 = ((i + 1 + j : Nat) : Int) ∧ dv_tb k (i + 1 + j) = true) → ∃ j : Nat, (x :: l)[j]? = some q.1 ∧ q.2 = ((i + j : Nat) : Int) ∧ dv_tb k (i + j) = true := fun ⟨j, a, b, c⟩ => ⟨j + 1, by rw [List.getElem?_cons_succ]; exact a, by rw [b, show i + 1 + j = i + (j + 1) by omega], by rw [← show i + 1 + j = i + (j + 1) by omega]; exact c⟩
    rw [dv_kp_c]
    constructor
    · intro h
      by_cases b : dv_tb k i = true
      · rw [if_pos b] at h
        rcases List.mem_cons.mp h with h | h
        · exact ⟨0, by rw [h]; rfl, by rw [h]; rfl, b⟩
        · exact up (ih.mp h)
      · rw [if_neg b] at h
        exact up (ih.mp h)
    · rintro ⟨j, a, b, c⟩
      cases j with
      | zero =>
        have a' : x = q.1 := by simpa using a
        have c' : dv_tb k i = true := c
        rw [if_pos c']
        refine List.mem_cons.mpr (Or.inl ?_)
        rw [a']
        exact Prod.ext rfl b
      | succ j =>
        rw [List.getElem?_cons_succ] at a
        have := ih.mpr ⟨j, a, by rw [b, show i + 1 + j = i + (j + 1) by omega], by rw [show i + 1 + j = i + (j + 1) by omega]; exact c⟩
        by_cases b : dv_tb k i = true
        · rw [if_pos b]
          exact List.mem_cons_of_mem _ this
        · rw [if_neg b]
          exact this
theorem dv_kp_len {k : Int} : ∀ {l : List Int} {i : Nat}, (dv_kp k i l).length ≤ l.length
  | [], _ => Nat.le_refl _
  | x :: l, i => by
    have ih := dv_kp_len (k := k) (l := l) (i := i + 1)
    rw [dv_kp_c, List.length_cons]
    by_cases b : dv_tb k i = true
    · rw [if_pos b, List.length_cons]
      omega
    · rw [if_neg b]
      omega
end
section
/-! ===== the desk's answers: narrow ===== -/
theorem w_dv_nar {CALL : sx_Ca} {sL : Nat} {sx : Nat → Int32} {Q : Nat → sx_L → sx_S → Prop} {R : Int → sx_S → Prop} (h_head : ∀ (a0 : Int) (s : sx_S) (K : Int → sx_S → Prop), cx_I s → (-2147483648 ≤ a0 ∧ a0 ≤ 2147483647) → (∀ z : Int, (0 ≤ a0 → a0 < s.1 11 6 → z = s.2.1 13 a0.toNat) → (a0 < 0 → z = -1) → K z s) → CALL 92 [.inr (.inl 11), .inl a0] s K) (h_node : ∀ (a0 a1 : Int) (s : sx_S) (R : Int → sx_S → Prop), cx_I s → s.1 11 6 < 1024 → (-2147483648 ≤ a0 ∧ a0 ≤ 2147483647) → (-2147483648 ≤ a1 ∧ a1 ≤ 2147483647) → (∀ t, cx_I t → cx_F [(11, 17)] s t → dz_N1 a0 a1 (-1) s t → R (s.1 11 6) t) → CALL 88 [.inr (.inl 11), .inl a0, .inl a1] s R) (h_bind : ∀ (a0 a1 : Int) (s : sx_S) (R : Int → sx_S → Prop), cx_I s → (0 ≤ a0 ∧ a0 < 32) → (-2147483648 ≤ a1 ∧ a1 ≤ 2147483647) → (cx_I (s.1, sx_ua (sx_ua s.2.1 34 a0.toNat a1) 35 a0.toNat 0, s.2.2) → R 0 (s.1, sx_ua (sx_ua s.2.1 34 a0.toNat a1) 35 a0.toNat 0, s.2.2)) → CALL 7 [.inr (.inl 33), .inl a0, .inl a1] s R) {s : sx_S} {a0 a1 x3 : Int} (hI : cx_I s) (p0 : 0 ≤ a0 ∧ a0 < s.1 11 6) (p1 : -2147483648 ≤ a1 ∧ a1 ≤ 2147483647) (q3 : s.2.1 13 a0.toNat = x3 ∧ 0 ≤ x3 ∧ x3 < 32) (hr : s.1 33 6 < 32) (hN : s.1 11 6 < 1024) (hQ : ∀ t, cx_I t → cx_F [(11, 17)] s t → dz_N1 3 (s.1 33 6) (-1) s t → cx_I (sx_uf t.1 33 6 (t.1 33 6 + 1), sx_ua (sx_ua t.2.1 34 x3.toNat (s.1 11 6)) 35 x3.toNat 0, t.2.2) → Q 53 [(0, .inr (.inl 33)), (1, .inl a0), (2, .inl a1), (3, .inl x3), (4, .inl (s.1 11 6)), (5, .inl 0)] (sx_uf t.1 33 6 (t.1 33 6 + 1), sx_ua (sx_ua t.2.1 34 x3.toNat (s.1 11 6)) 35 x3.toNat 0, t.2.2)) : sx_wp true sL sx eX0_narrow CALL [(53, [0, 1, 2, 3, 4, 5])] Q R 400 0 (sx_argsF 0 [.inr (.inl 33), .inl a0, .inl a1]) [] s := by
  have h0 := hI.fld 11 6 (by decide) rfl
  have h33 := hI.fld 33 6 (by decide) rfl
  repeat' (first | (with_reducible (rintro _ rfl)) | (with_reducible intro _) | (refine And.intro ?_ ?_) | (refine h_head _ _ _ hI (by omega) (fun z z1 z2 => ?_); obtain rfl : z = x3 := by rw [z1 (by omega) (by omega)]; exact q3.1) | (refine h_node _ _ _ _ hI hN (by omega) (by omega) (fun t t1 t2 t3 => ?_)) | (have zz33 : t.1 33 = s.1 33 := (t2.same 33 rfl).1; have zzw : sx_w true (t.1 33 6 + 1) = t.1 33 6 + 1 := px_wid (by rw [zz33]; omega) (by rw [zz33]; omega); have zzi : cx_I (sx_uf t.1 33 6 (t.1 33 6 + 1), t.2) := cx_I_uf rfl rfl t1 (by rw [zz33]; omega) (by rw [zz33]; omega); refine h_bind _ (s.1 11 6) (sx_uf t.1 33 6 (sx_w true (t.1 33 6 + 1)), t.2) _ (by rw [zzw]; exact zzi) q3.2 (by omega) (fun zzb => ?_)))
  all_goals (try dsimp only at *)
  all_goals (first | trivial | assumption | omega | (exfalso; omega) | (rw [zzw] at zzb; have zz9 := hQ _ t1 t2 t3 zzb; rw [← zzw] at zz9; exact zz9) | skip)

theorem w_dv_nar53 {CALL : sx_Ca} {sL : Nat} {sx : Nat → Int32} {Q : Nat → sx_L → sx_S → Prop} {R : Int → sx_S → Prop} (h_arity : ∀ (a0 : Int) (s : sx_S) (K : Int → sx_S → Prop), cx_I s → (-2147483648 ≤ a0 ∧ a0 ≤ 2147483647) → (∀ z : Int, (0 ≤ a0 → a0 < s.1 11 6 → z = s.2.1 16 a0.toNat) → (a0 < 0 → z = 0) → K z s) → CALL 94 [.inr (.inl 11), .inl a0] s K) (h_head : ∀ (a0 : Int) (s : sx_S) (K : Int → sx_S → Prop), cx_I s → (-2147483648 ≤ a0 ∧ a0 ≤ 2147483647) → (∀ z : Int, (0 ≤ a0 → a0 < s.1 11 6 → z = s.2.1 13 a0.toNat) → (a0 < 0 → z = -1) → K z s) → CALL 92 [.inr (.inl 11), .inl a0] s K) (h_node : ∀ (a0 a1 : Int) (s : sx_S) (R : Int → sx_S → Prop), cx_I s → s.1 11 6 < 1024 → (-2147483648 ≤ a0 ∧ a0 ≤ 2147483647) → (-2147483648 ≤ a1 ∧ a1 ≤ 2147483647) → (∀ t, cx_I t → cx_F [(11, 17)] s t → dz_N1 a0 a1 (-1) s t → R (s.1 11 6) t) → CALL 88 [.inr (.inl 11), .inl a0, .inl a1] s R) (h_add : ∀ (a0 a1 a2 : Int) (s : sx_S) (R : Int → sx_S → Prop), cx_I s → (0 ≤ a0 ∧ a0 < 32) → (-2147483648 ≤ a1 ∧ a1 ≤ 2147483647) → (-2147483648 ≤ a2 ∧ a2 ≤ 2147483647) → s.2.1 35 a0.toNat < 4 → (cx_I (s.1, sx_ua (sx_ua (sx_ua s.2.1 36 (a0 * 4 + s.2.1 35 a0.toNat).toNat a1) 37 (a0 * 4 + s.2.1 35 a0.toNat).toNat a2) 35 a0.toNat (s.2.1 35 a0.toNat + 1), s.2.2) → R 0 (s.1, sx_ua (sx_ua (sx_ua s.2.1 36 (a0 * 4 + s.2.1 35 a0.toNat).toNat a1) 37 (a0 * 4 + s.2.1 35 a0.toNat).toNat a2) 35 a0.toNat (s.2.1 35 a0.toNat + 1), s.2.2)) → CALL 8 [.inr (.inl 33), .inl a0, .inl a1, .inl a2] s R) {s : sx_S} {a0 a1 x3 x4 x5 w n : Int} {G : sx_S → sx_S → Prop} (h_arg : x5 < n → ∀ K : Int → sx_S → Prop, K w s → CALL 95 [.inr (.inl 11), .inl a0, .inl x5] s K) (h_app : ∀ t1, cx_I t1 → cx_F [(11, 17)] s t1 → dz_N1 2 (s.2.1 13 w.toNat) (-1) s t1 → x5 < n → ∀ K : Int → sx_S → Prop, (∀ t2, G t1 t2 → K 0 t2) → CALL 90 [.inr (.inl 11), .inl x4, .inl (s.1 11 6)] t1 K) (hG : ∀ t1 t2, G t1 t2 → cx_I t2 ∧ t2.2.1 35 x3.toNat < 4) (hI : cx_I s) (p0 : 0 ≤ a0 ∧ a0 < s.1 11 6) (p1 : 0 ≤ a1 ∧ a1 < 32) (q3 : 0 ≤ x3 ∧ x3 < 32) (q4 : -2147483648 ≤ x4 ∧ x4 ≤ 2147483647) (q5 : 0 ≤ x5 ∧ x5 ≤ n ∧ n ≤ 4) (en : s.2.1 16 a0.toNat = n) (qw : x5 < n → 0 ≤ w ∧ w < s.1 11 6) (hN : x5 < n → s.1 11 6 < 1024) (hK : x5 = n → R 0 s) (hQ1 : x5 < n → dv_and a1 (dv_shl 1 x5) = 0 → Q 53 [(0, .inr (.inl 33)), (1, .inl a0), (2, .inl a1), (3, .inl x3), (4, .inl x4), (5, .inl (x5 + 1))] s) (hQ2 : x5 < n → ¬ dv_and a1 (dv_shl 1 x5) = 0 → ∀ t1 t2, cx_I t1 → cx_F [(11, 17)] s t1 → dz_N1 2 (s.2.1 13 w.toNat) (-1) s t1 → G t1 t2 → cx_I (t2.1, sx_ua (sx_ua (sx_ua t2.2.1 36 (x3 * 4 + t2.2.1 35 (x3).toNat).toNat ((s.2.1 13 w.toNat))) 37 (x3 * 4 + t2.2.1 35 (x3).toNat).toNat (x5)) 35 (x3).toNat (t2.2.1 35 (x3).toNat + 1), t2.2.2) → Q 53 [(0, .inr (.inl 33)), (1, .inl a0), (2, .inl a1), (3, .inl x3), (4, .inl x4), (5, .inl (x5 + 1))] (t2.1, sx_ua (sx_ua (sx_ua t2.2.1 36 (x3 * 4 + t2.2.1 35 (x3).toNat).toNat ((s.2.1 13 w.toNat))) 37 (x3 * 4 + t2.2.1 35 (x3).toNat).toNat (x5)) 35 (x3).toNat (t2.2.1 35 (x3).toNat + 1), t2.2.2)) : sx_wp true sL sx eX0_narrow CALL [(53, [0, 1, 2, 3, 4, 5])] Q R 400 53 [(0, .inr (.inl 33)), (1, .inl a0), (2, .inl a1), (3, .inl x3), (4, .inl x4), (5, .inl x5)] [] s := by
  have h0 := hI.fld 11 6 (by decide) rfl
  have h13 := hI.arr 13 (by decide) rfl w.toNat
  have zzy : sx_w true (x5 + 1) = x5 + 1 := px_wid (by omega) (by omega)
  repeat' (first | (with_reducible (rintro _ rfl)) | (with_reducible intro _) | (refine And.intro ?_ ?_) | (refine h_arity _ _ _ hI (by omega) (fun v v1 v2 => ?_); obtain rfl : v = n := (v1 p0.1 p0.2).trans en) | (refine h_arg (by omega) _ ?_) | (refine h_head _ _ _ hI (by have := qw (by omega); omega) (fun v v1 v2 => ?_); obtain rfl : v = (s.2.1 13 w.toNat) := v1 (qw (by omega)).1 (qw (by omega)).2) | (refine h_node _ _ _ _ hI (hN (by omega)) (by omega) h13 (fun t1 u1 u2 u3 => ?_)) | (refine h_app t1 u1 u2 u3 (by omega) _ (fun t2 v1 => ?_)) | (refine h_add _ _ _ t2 _ (hG _ _ v1).1 q3 h13 (by omega) (hG _ _ v1).2 (fun zzb => ?_)))
  all_goals (try dsimp only at *)
  all_goals (first | trivial | assumption | omega | (exfalso; omega) | (exact hK (by omega)) | (have zz9 := hQ1 (by omega) (by assumption); rw [← zzy] at zz9; exact zz9) | (have zz9 := hQ2 (by omega) (by assumption) _ _ u1 u2 u3 v1 zzb; rw [← zzy] at zz9; exact zz9) | skip)

/-- what narrowing leaves: the new call, its row Fn, the pairs -/
def dv_nr (k x : Int) (hs : List Int) (s t : sx_S) (Fn : rf_N) : Prop := True → (t.1 33 6 = s.1 33 6 + 1 ∧ t.1 11 6 = s.1 11 6 + 1 + ((dv_kp k 0 hs).length : Int)) ∧ dz_T (s.1 11 6) t (rf_n (s.1 11 6).toNat 3 (s.1 33 6) Fn .leaf) (s.1 11 6) ∧ dz_hs Fn = (dv_kp k 0 hs).map Prod.fst ∧ dz_fr (fun j => (j : Int) < s.1 11 6) s t ∧ (t.2.1 34 x.toNat = s.1 11 6 ∧ dv_pr t x (dv_kp k 0 hs)) ∧ (∀ j : Nat, j ≠ x.toNat → t.2.1 34 j = s.2.1 34 j ∧ t.2.1 35 j = s.2.1 35 j) ∧ (∀ j : Nat, j < x.toNat * 4 ∨ x.toNat * 4 + 4 ≤ j → t.2.1 36 j = s.2.1 36 j ∧ t.2.1 37 j = s.2.1 37 j) ∧ (t.1 11 8 = s.1 11 8 ∧ t.2.1 17 = s.2.1 17)
theorem dv_nr_0 {k x : Int} {s t : sx_S} (hI : cx_I s) (hx : 0 ≤ x) (t2 : cx_F [(11, 17)] s t) (t3 : dz_N1 3 (s.1 33 6) (-1) s t) : dv_nr k x [] s (sx_uf t.1 33 6 (t.1 33 6 + 1), sx_ua (sx_ua t.2.1 34 x.toNat (s.1 11 6)) 35 x.toNat 0, t.2.2) .leaf := fun _ => by
  have h0 := hI.fld 11 6 (by decide) rfl
  have h33 := hI.fld 33 6 (by decide) rfl
  have e33 : t.1 33 = s.1 33 := (t2.same 33 rfl).1
  have a34 : t.2.1 34 = s.2.1 34 := (t2.same 34 rfl).2
  have a35 : t.2.1 35 = s.2.1 35 := (t2.same 35 rfl).2
  have a36 : t.2.1 36 = s.2.1 36 := (t2.same 36 rfl).2
  have a37 : t.2.1 37 = s.2.1 37 := (t2.same 37 rfl).2
  have hT := dz_T_new t3 h0.1 (by omega) h33.1
  have hfr : dz_fr (fun _ => True) t (sx_uf t.1 33 6 (t.1 33 6 + 1), sx_ua (sx_ua t.2.1 34 x.toNat (s.1 11 6)) 35 x.toNat 0, t.2.2) := fun _ => ⟨by show t.1 11 6 ≤ sx_uf t.1 33 6 (t.1 33 6 + 1) 11 6; rw [sx_uf_if, if_neg (by omega)]; exact Int.le_refl _, fun j _ => by simp [sx_ua_if]⟩
  obtain ⟨n1, n2, n3, _⟩ := t3 trivial
  refine ⟨⟨?_, ?_⟩, dz_T_fr hT hfr (fun _ _ => trivial), rfl, dz_fr_t hfr (dz_fr_N1 t3) (fun _ _ => trivial), ⟨by simp [sx_ua_if], fun _ => ⟨by simp [sx_ua_if, dv_kp], by simp [dv_kp], fun i q hq => by simp [dv_kp] at hq⟩⟩, fun j hj => by simp [sx_ua_if, hj, a34, a35], fun j _ => by simp [sx_ua_if, a36, a37], ⟨?_, ?_⟩⟩
  · show sx_uf t.1 33 6 (t.1 33 6 + 1) 33 6 = _
    rw [px_us, e33]
  · show sx_uf t.1 33 6 (t.1 33 6 + 1) 11 6 = _
    rw [sx_uf_if, if_neg (by omega), n1]
    simp [dv_kp]
  · show sx_uf t.1 33 6 (t.1 33 6 + 1) 11 8 = _
    rw [sx_uf_if, if_neg (by omega), n2]
  · show sx_ua (sx_ua t.2.1 34 x.toNat (s.1 11 6)) 35 x.toNat 0 17 = _
    rw [sx_ua_ne (by decide), sx_ua_ne (by decide), n3]
theorem dv_nr_no {k x h : Int} {l : List Int} {s t : sx_S} {Fn : rf_N} (hb : dv_tb k l.length = false) (h1 : dv_nr k x l s t Fn) : dv_nr k x (l ++ [h]) s t Fn := by
  have e : dv_kp k 0 (l ++ [h]) = dv_kp k 0 l := by
    rw [dv_kp_snoc, Nat.zero_add, hb]
    simp
  unfold dv_nr
  rw [e]
  exact h1
theorem dv_nr_yes {k x v : Int} {l : List Int} {s u t1 t2 : sx_S} {Fn : rf_N} (hI : cx_I s) (hIu : cx_I u) (hx : 0 ≤ x ∧ x < 32) (hl : l.length < 4) (hb : dv_tb k l.length = true) (hu : dv_nr k x l s u Fn) (u2 : cx_F [(11, 17)] u t1) (u3 : dz_N1 2 v (-1) u t1) (v1 : cx_F [(11, 17)] t1 t2) (v2 : t2.1 = t1.1 ∧ t2.2.1 17 = t1.2.1 17) (v3 : dz_T (s.1 11 6) t2 (rf_n (s.1 11 6).toNat 3 (s.1 33 6) (rf_snoc Fn (rf_n (u.1 11 6).toNat 2 v .leaf .leaf)) .leaf) (s.1 11 6)) (v4 : dz_fr (fun j => j ∉ rf_idx (rf_n (s.1 11 6).toNat 3 (s.1 33 6) Fn .leaf)) t1 t2) : dv_nr k x (l ++ [v]) s (t2.1, sx_ua (sx_ua (sx_ua t2.2.1 36 (x * 4 + t2.2.1 35 (x).toNat).toNat (v)) 37 (x * 4 + t2.2.1 35 (x).toNat).toNat ((l.length : Int))) 35 (x).toNat (t2.2.1 35 (x).toNat + 1), t2.2.2) (rf_snoc Fn (rf_n (u.1 11 6).toNat 2 v .leaf .leaf)) := fun _ => by
  have h0 := hI.fld 11 6 (by decide) rfl
  have e : dv_kp k 0 (l ++ [v]) = dv_kp k 0 l ++ [(v, (l.length : Int))] := by
    rw [dv_kp_snoc, Nat.zero_add, hb]
    simp
  have lk := dv_kp_len (k := k) (l := l) (i := 0)
  obtain ⟨⟨c1, c2⟩, c3, c4, c5, ⟨c6, c7⟩, c8, c9, c10, c11⟩ := hu trivial
  obtain ⟨n1, n2, n3, n4, n5⟩ := u3 trivial
  obtain ⟨P1, P2, P3⟩ := c7 trivial
  have w33 : t2.1 33 = u.1 33 := by rw [v2.1, (u2.same 33 rfl).1]
  have w34 : t2.2.1 34 = u.2.1 34 := by rw [(v1.same 34 rfl).2, (u2.same 34 rfl).2]
  have w35 : t2.2.1 35 = u.2.1 35 := by rw [(v1.same 35 rfl).2, (u2.same 35 rfl).2]
  have w36 : t2.2.1 36 = u.2.1 36 := by rw [(v1.same 36 rfl).2, (u2.same 36 rfl).2]
  have w37 : t2.2.1 37 = u.2.1 37 := by rw [(v1.same 37 rfl).2, (u2.same 37 rfl).2]
  have hfr : dz_fr (fun _ => True) t2 (t2.1, sx_ua (sx_ua (sx_ua t2.2.1 36 (x * 4 + t2.2.1 35 (x).toNat).toNat (v)) 37 (x * 4 + t2.2.1 35 (x).toNat).toNat ((l.length : Int))) 35 (x).toNat (t2.2.1 35 (x).toNat + 1), t2.2.2) := fun _ => ⟨Int.le_refl _, fun j _ => by simp [sx_ua_if]⟩
  have hix : (x * 4 + t2.2.1 35 x.toNat).toNat = x.toNat * 4 + (dv_kp k 0 l).length := by
    rw [w35, P1]
    omega
  rw [e]
  refine ⟨⟨?_, ?_⟩, dz_T_fr v3 hfr (fun _ _ => trivial), ?_, ?_, ⟨?_, ?_⟩, fun j hj => ?_, fun j hj => ?_, ?_, ?_⟩
  · show t2.1 33 6 = _
    rw [w33]
    exact c1
  · show t2.1 11 6 = _
    rw [v2.1, n1, c2, List.length_append]
    simp
    omega
  · rw [dz_hs_snoc, c4, List.map_append]
    rfl
  · refine dz_fr_t hfr (dz_fr_t v4 (dz_fr_t (dz_fr_N1 u3) c5 (fun j hj => ?_)) (fun j hj hm => ?_)) (fun _ _ => trivial)
    · have hj' : (j : Int) < s.1 11 6 := hj
      show (j : Int) < u.1 11 6
      omega
    · have hj' : (j : Int) < s.1 11 6 := hj
      have := (c3 trivial).2.2.2.1 j hm
      omega
  · show sx_ua (sx_ua (sx_ua t2.2.1 36 (x * 4 + t2.2.1 35 x.toNat).toNat v) 37 (x * 4 + t2.2.1 35 x.toNat).toNat (l.length : Int)) 35 x.toNat (t2.2.1 35 x.toNat + 1) 34 x.toNat = _
    rw [sx_ua_ne (by decide), sx_ua_ne (by decide), sx_ua_ne (by decide), w34]
    exact c6
  · intro _
    refine ⟨?_, ?_, fun i q hq => ?_⟩
    · show sx_ua (sx_ua (sx_ua t2.2.1 36 (x * 4 + t2.2.1 35 x.toNat).toNat v) 37 (x * 4 + t2.2.1 35 x.toNat).toNat (l.length : Int)) 35 x.toNat (t2.2.1 35 x.toNat + 1) 35 x.toNat = _
      rw [sx_ua_same]
      dsimp only
      rw [if_pos rfl, w35, P1, List.length_append]
      simp
    · rw [List.length_append]
      show _ + 1 ≤ 4
      omega
    · show sx_ua (sx_ua (sx_ua t2.2.1 36 (x * 4 + t2.2.1 35 x.toNat).toNat v) 37 (x * 4 + t2.2.1 35 x.toNat).toNat (l.length : Int)) 35 x.toNat (t2.2.1 35 x.toNat + 1) 36 (x * 4 + (i : Int)).toNat = _ ∧ sx_ua (sx_ua (sx_ua t2.2.1 36 (x * 4 + t2.2.1 35 x.toNat).toNat v) 37 (x * 4 + t2.2.1 35 x.toNat).toNat (l.length : Int)) 35 x.toNat (t2.2.1 35 x.toNat + 1) 37 (x * 4 + (i : Int)).toNat = _
      rw [hix]
      have hi : (x * 4 + (i : Int)).toNat = x.toNat * 4 + i := by omega
      rw [hi, sx_ua_ne (by decide), sx_ua_ne (by decide), sx_ua_same, sx_ua_ne (by decide), sx_ua_same]
      dsimp only
      by_cases hc : i < (dv_kp k 0 l).length
      · rw [List.getElem?_append_left hc] at hq
        obtain ⟨d1, d2⟩ := P3 i q hq
        rw [hi] at d1 d2
        rw [if_neg (by omega), if_neg (by omega), w36, sx_ua_ne (by decide), w37]
        exact ⟨d1, d2⟩
      · rw [List.getElem?_append_right (by omega)] at hq
        have hz : i - (dv_kp k 0 l).length = 0 := by
          obtain ⟨hlt, _⟩ := List.getElem?_eq_some_iff.mp hq
          simp at hlt
          omega
        rw [hz] at hq
        have hq' : (v, (l.length : Int)) = q := by simpa using hq
        have hie : x.toNat * 4 + i = x.toNat * 4 + (dv_kp k 0 l).length := by omega
        rw [if_pos hie, if_pos hie, ← hq']
        exact ⟨rfl, rfl⟩
  · show sx_ua (sx_ua (sx_ua t2.2.1 36 (x * 4 + t2.2.1 35 x.toNat).toNat v) 37 (x * 4 + t2.2.1 35 x.toNat).toNat (l.length : Int)) 35 x.toNat (t2.2.1 35 x.toNat + 1) 34 j = _ ∧ sx_ua (sx_ua (sx_ua t2.2.1 36 (x * 4 + t2.2.1 35 x.toNat).toNat v) 37 (x * 4 + t2.2.1 35 x.toNat).toNat (l.length : Int)) 35 x.toNat (t2.2.1 35 x.toNat + 1) 35 j = _
    rw [sx_ua_ne (by decide), sx_ua_ne (by decide), sx_ua_ne (by decide), sx_ua_same]
    dsimp only
    rw [if_neg hj, w34, sx_ua_ne (by decide), sx_ua_ne (by decide), w35]
    exact c8 j hj
  · show sx_ua (sx_ua (sx_ua t2.2.1 36 (x * 4 + t2.2.1 35 x.toNat).toNat v) 37 (x * 4 + t2.2.1 35 x.toNat).toNat (l.length : Int)) 35 x.toNat (t2.2.1 35 x.toNat + 1) 36 j = _ ∧ sx_ua (sx_ua (sx_ua t2.2.1 36 (x * 4 + t2.2.1 35 x.toNat).toNat v) 37 (x * 4 + t2.2.1 35 x.toNat).toNat (l.length : Int)) 35 x.toNat (t2.2.1 35 x.toNat + 1) 37 j = _
    rw [hix, sx_ua_ne (by decide), sx_ua_ne (by decide), sx_ua_same, sx_ua_ne (by decide), sx_ua_same]
    dsimp only
    rw [if_neg (by omega), if_neg (by omega), w36, sx_ua_ne (by decide), w37]
    exact c9 j hj
  · show t2.1 11 8 = _
    rw [v2.1, n2, c10]
  · show sx_ua (sx_ua (sx_ua t2.2.1 36 (x * 4 + t2.2.1 35 x.toNat).toNat v) 37 (x * 4 + t2.2.1 35 x.toNat).toNat (l.length : Int)) 35 x.toNat (t2.2.1 35 x.toNat + 1) 17 = _
    rw [sx_ua_ne (by decide), sx_ua_ne (by decide), sx_ua_ne (by decide), v2.2, n3, c11]
end
