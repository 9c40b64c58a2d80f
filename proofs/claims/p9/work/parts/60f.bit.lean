/-! ===== sets of ARGs as numbers ===== -/
abbrev dv_and (x y : Int) : Int := sx_b (fun x y => x &&& y) x y
abbrev dv_or (x y : Int) : Int := sx_b (fun x y => x ||| y) x y
abbrev dv_shl (x y : Int) : Int := sx_b (fun x y => x <<< (y &&& 31)) x y
def dv_tb (k : Int) (j : Nat) : Bool := Nat.testBit k.toNat j
theorem dv_d1 : ∀ j : Fin 5, dv_shl 1 (j.val : Int) = ((2 ^ j.val : Nat) : Int) := by decide
theorem dv_d2 : ∀ k : Fin 32, ∀ j : Fin 5, (dv_and (k.val : Int) ((2 ^ j.val : Nat) : Int) = 0 ↔ Nat.testBit k.val j.val = false) := by decide
theorem dv_d3 : ∀ j : Fin 5, ∀ k : Fin 16, k.val < 2 ^ j.val → dv_or (k.val : Int) ((2 ^ j.val : Nat) : Int) = ((k.val + 2 ^ j.val : Nat) : Int) := by decide
theorem dv_d4 : ∀ k : Fin 32, dv_or (k.val : Int) 0 = (k.val : Int) := by decide
theorem dv_d5 : ∀ j : Fin 5, ∀ k : Fin 16, ∀ i : Fin 5, k.val < 2 ^ j.val → Nat.testBit (k.val + 2 ^ j.val) i.val = (decide (i.val = j.val) || Nat.testBit k.val i.val) := by decide
theorem dv_d6 : ∀ k l : Fin 32, (∀ i : Fin 5, Nat.testBit k.val i.val = Nat.testBit l.val i.val) → k = l := by decide
theorem dv_d7 : ∀ k l : Fin 32, ∃ m : Fin 32, dv_and (k.val : Int) (l.val : Int) = (m.val : Int) ∧ ∀ i : Fin 5, Nat.testBit m.val i.val = (Nat.testBit k.val i.val && Nat.testBit l.val i.val) := by decide
theorem dv_d8 : ∀ n : Fin 5, ∀ i : Fin 5, Nat.testBit (2 ^ n.val - 1) i.val = decide (i.val < n.val) := by decide
theorem dv_shl1 {j : Nat} (h : j < 5) : dv_shl 1 (j : Int) = ((2 ^ j : Nat) : Int) := dv_d1 ⟨j, h⟩
/-- whether j is in the set k -/
theorem dv_bit {k : Int} {j : Nat} (h0 : 0 ≤ k) (h1 : k < 32) (hj : j < 5) : dv_and k (dv_shl 1 (j : Int)) = 0 ↔ dv_tb k j = false := by
  have := dv_d2 ⟨k.toNat, by omega⟩ ⟨j, hj⟩
  rw [dv_shl1 hj]
  have e : ((k.toNat : Nat) : Int) = k := Int.toNat_of_nonneg h0
  rw [e] at this
  exact this
/-- one more -/
theorem dv_add {k : Int} {j : Nat} (h0 : 0 ≤ k) (hj : j < 4) (h1 : k < ((2 ^ j : Nat) : Int)) : dv_or k (dv_shl 1 (j : Int)) = k + ((2 ^ j : Nat) : Int) ∧ k + ((2 ^ j : Nat) : Int) < ((2 ^ (j + 1) : Nat) : Int) ∧ ∀ i, i < 5 → dv_tb (k + ((2 ^ j : Nat) : Int)) i = (decide (i = j) || dv_tb k i) := by
  have p : (2 : Nat) ^ j ≤ 8 := by
    have : j = 0 ∨ j = 1 ∨ j = 2 ∨ j = 3 := by omega
    rcases this with rfl | rfl | rfl | rfl <;> decide
  have p' : (2 : Nat) ^ (j + 1) = 2 * 2 ^ j := Nat.pow_succ'
  have e : ((k.toNat : Nat) : Int) = k := Int.toNat_of_nonneg h0
  have hk : k.toNat < 2 ^ j := by omega
  have a := dv_d3 ⟨j, by omega⟩ ⟨k.toNat, by omega⟩ hk
  rw [dv_shl1 (by omega)]
  dsimp only at a
  rw [e] at a
  refine ⟨by rw [a]; omega, by omega, fun i hi => ?_⟩
  have b := dv_d5 ⟨j, by omega⟩ ⟨k.toNat, by omega⟩ ⟨i, hi⟩ hk
  unfold dv_tb
  rw [show (k + ((2 ^ j : Nat) : Int)).toNat = k.toNat + 2 ^ j by omega]
  exact b
theorem dv_or0 {k : Int} (h0 : 0 ≤ k) (h1 : k < 32) : dv_or k 0 = k := by
  have := dv_d4 ⟨k.toNat, by omega⟩
  have e : ((k.toNat : Nat) : Int) = k := Int.toNat_of_nonneg h0
  dsimp only at this
  rw [e] at this
  exact this
theorem dv_tb_hi {k : Int} {j i : Nat} (h1 : k < ((2 ^ j : Nat) : Int)) (hi : j ≤ i) : dv_tb k i = false := by
  unfold dv_tb
  have : k.toNat < 2 ^ j := by
    have := Nat.one_le_two_pow (n := j)
    omega
  exact Nat.testBit_lt_two_pow (Nat.lt_of_lt_of_le this (Nat.pow_le_pow_right (by decide) hi))
/-- the same set -/
theorem dv_tb_eq {k l : Int} (h0 : 0 ≤ k) (h1 : k < 32) (g0 : 0 ≤ l) (g1 : l < 32) (h : ∀ i, i < 5 → dv_tb k i = dv_tb l i) : k = l := by
  have := dv_d6 ⟨k.toNat, by omega⟩ ⟨l.toNat, by omega⟩ (fun i => h i.val i.isLt)
  have := congrArg Fin.val this
  dsimp only at this
  omega
theorem dv_tb_and {k l : Int} (h0 : 0 ≤ k) (h1 : k < 32) (g0 : 0 ≤ l) (g1 : l < 32) : (0 ≤ dv_and k l ∧ dv_and k l < 32) ∧ ∀ i, i < 5 → dv_tb (dv_and k l) i = (dv_tb k i && dv_tb l i) := by
  obtain ⟨m, m1, m2⟩ := dv_d7 ⟨k.toNat, by omega⟩ ⟨l.toNat, by omega⟩
  have e : ((k.toNat : Nat) : Int) = k := Int.toNat_of_nonneg h0
  have e' : ((l.toNat : Nat) : Int) = l := Int.toNat_of_nonneg g0
  dsimp only at m1
  rw [e, e'] at m1
  rw [m1]
  refine ⟨by omega, fun i hi => ?_⟩
  unfold dv_tb
  rw [show ((m.val : Int)).toNat = m.val by omega]
  exact m2 ⟨i, hi⟩
/-- all of n -/
theorem dv_tb_all {n i : Nat} (hn : n < 5) (hi : i < 5) : dv_tb (((2 ^ n : Nat) : Int) - 1) i = decide (i < n) := by
  have := dv_d8 ⟨n, hn⟩ ⟨i, hi⟩
  unfold dv_tb
  rw [show (((2 ^ n : Nat) : Int) - 1).toNat = 2 ^ n - 1 by omega]
  exact this
/-- the ARGs in the set: (variable, which one); i: the number of the first -/
def dv_kp (k : Int) : Nat → List Int → List (Int × Int)
  | _, [] => []
  | i, h :: r => if dv_tb k i then (h, (i : Int)) :: dv_kp k (i + 1) r else dv_kp k (i + 1) r
theorem dv_kp_c (k : Int) (i : Nat) (h : Int) (r : List Int) : dv_kp k i (h :: r) = if dv_tb k i then (h, (i : Int)) :: dv_kp k (i + 1) r else dv_kp k (i + 1) r := rfl
theorem dv_kp_snoc {k : Int} {h : Int} : ∀ {l : List Int} {i : Nat}, dv_kp k i (l ++ [h]) = dv_kp k i l ++ (if dv_tb k (i + l.length) then [(h, ((i + l.length : Nat) : Int))] else [])
  | [], i => by
    show dv_kp k i [h] = [] ++ _
    rw [dv_kp_c, List.nil_append]
    rfl
  | x :: l, i => by
    have ih := dv_kp_snoc (k := k) (h := h) (l := l) (i := i + 1)
    rw [List.cons_append, dv_kp_c, dv_kp_c, ih, List.length_cons, show i + 1 + l.length = i + (l.length + 1) by omega]
    by_cases b : dv_tb k i = true
    · rw [if_pos b, if_pos b]
      rfl
    · rw [if_neg b, if_neg b]
theorem dv_kp_mem {k : Int} {q : Int × Int} : ∀ {l : List Int} {i : Nat}, q ∈ dv_kp k i l ↔ ∃ j : Nat, l[j]? = some q.1 ∧ q.2 = ((i + j : Nat) : Int) ∧ dv_tb k (i + j) = true
  | [], i => ⟨fun h => absurd h List.not_mem_nil, fun ⟨j, h, _⟩ => by simp at h⟩
  | x :: l, i => by
    have ih := dv_kp_mem (k := k) (q := q) (l := l) (i := i + 1)
    have up : (∃ j : Nat, l[j]? = some q.1 ∧ q.2 = ((i + 1 + j : Nat) : Int) ∧ dv_tb k (i + 1 + j) = true) → ∃ j : Nat, (x :: l)[j]? = some q.1 ∧ q.2 = ((i + j : Nat) : Int) ∧ dv_tb k (i + j) = true := fun ⟨j, a, b, c⟩ => ⟨j + 1, by rw [List.getElem?_cons_succ]; exact a, by rw [b, show i + 1 + j = i + (j + 1) by omega], by rw [← show i + 1 + j = i + (j + 1) by omega]; exact c⟩
    rw [dv_kp_c]
    constructor
    · intro h
      by_cases b : dv_tb k i = true
      · rw [if_pos b] at h
        rcases List.mem_cons.mp h with h | h
        · exact ⟨0, by rw [h]; rfl, by rw [h]; rfl, b⟩
        · exact up (ih.mp h)
      · rw [if_neg b] at h
        exact up (ih.mp h)
    · rintro ⟨j, a, b, c⟩
      cases j with
      | zero =>
        have a' : x = q.1 := by simpa using a
        have c' : dv_tb k i = true := c
        rw [if_pos c']
        refine List.mem_cons.mpr (Or.inl ?_)
        rw [a']
        exact Prod.ext rfl b
      | succ j =>
        rw [List.getElem?_cons_succ] at a
        have := ih.mpr ⟨j, a, by rw [b, show i + 1 + j = i + (j + 1) by omega], by rw [show i + 1 + j = i + (j + 1) by omega]; exact c⟩
        by_cases b : dv_tb k i = true
        · rw [if_pos b]
          exact List.mem_cons_of_mem _ this
        · rw [if_neg b]
          exact this
theorem dv_kp_len {k : Int} : ∀ {l : List Int} {i : Nat}, (dv_kp k i l).length ≤ l.length
  | [], _ => Nat.le_refl _
  | x :: l, i => by
    have ih := dv_kp_len (k := k) (l := l) (i := i + 1)
    rw [dv_kp_c, List.length_cons]
    by_cases b : dv_tb k i = true
    · rw [if_pos b, List.length_cons]
      omega
    · rw [if_neg b]
      omega
