/-! ===== the pairs of an unknown that is given a term ===== -/
def dv_gp (e : List (Int × Int)) : Nat → List Int → List (Int × Int)
  | _, [] => []
  | i, x :: r => if 0 ≤ x ∧ 0 ≤ dv_va e x then (dv_va e x, (i : Int)) :: dv_gp e (i + 1) r else dv_gp e (i + 1) r
theorem dv_gp_c (e : List (Int × Int)) (i : Nat) (x : Int) (r : List Int) : dv_gp e i (x :: r) = if 0 ≤ x ∧ 0 ≤ dv_va e x then (dv_va e x, (i : Int)) :: dv_gp e (i + 1) r else dv_gp e (i + 1) r := rfl
theorem dv_gp_snoc {e : List (Int × Int)} {x : Int} : ∀ {l : List Int} {i : Nat}, dv_gp e i (l ++ [x]) = dv_gp e i l ++ (if 0 ≤ x ∧ 0 ≤ dv_va e x then [(dv_va e x, ((i + l.length : Nat) : Int))] else [])
  | [], i => by
    show dv_gp e i [x] = [] ++ _
    rw [dv_gp_c, List.nil_append]
    rfl
  | y :: l, i => by
    have ih := dv_gp_snoc (e := e) (x := x) (l := l) (i := i + 1)
    rw [List.cons_append, dv_gp_c, dv_gp_c, ih, List.length_cons, show i + 1 + l.length = i + (l.length + 1) by omega]
    by_cases b : 0 ≤ y ∧ 0 ≤ dv_va e y
    · rw [if_pos b, if_pos b]
      rfl
    · rw [if_neg b, if_neg b]
theorem dv_gp_mem {e : List (Int × Int)} {q : Int × Int} : ∀ {l : List Int} {i : Nat}, q ∈ dv_gp e i l ↔ ∃ (j : Nat) (x : Int), l[j]? = some x ∧ q = (dv_va e x, ((i + j : Nat) : Int)) ∧ 0 ≤ x ∧ 0 ≤ dv_va e x
  | [], i => ⟨fun h => absurd h List.not_mem_nil, fun ⟨j, x, h, _⟩ => by simp at h⟩
  | y :: l, i => by
    have ih := dv_gp_mem (e := e) (q := q) (l := l) (i := i + 1)
    have up : (∃ (j : Nat) (x : Int), l[j]? = some x ∧ q = (dv_va e x, ((i + 1 + j : Nat) : Int)) ∧ 0 ≤ x ∧ 0 ≤ dv_va e x) → ∃ (j : Nat) (x : Int), (y :: l)[j]? = some x ∧ q = (dv_va e x, ((i + j : Nat) : Int)) ∧ 0 ≤ x ∧ 0 ≤ dv_va e x := fun ⟨j, x, a, b, c⟩ => ⟨j + 1, x, by rw [List.getElem?_cons_succ]; exact a, by rw [b, show i + 1 + j = i + (j + 1) by omega], c⟩
    rw [dv_gp_c]
    constructor
    · intro h
      by_cases b : 0 ≤ y ∧ 0 ≤ dv_va e y
      · rw [if_pos b] at h
        rcases List.mem_cons.mp h with h | h
        · exact ⟨0, y, rfl, h, b⟩
        · exact up (ih.mp h)
      · rw [if_neg b] at h
        exact up (ih.mp h)
    · rintro ⟨j, x, a, b, c⟩
      cases j with
      | zero =>
        have a' : y = x := by simpa using a
        subst a'
        rw [if_pos c]
        exact List.mem_cons.mpr (Or.inl b)
      | succ j =>
        rw [List.getElem?_cons_succ] at a
        have := ih.mpr ⟨j, x, a, by rw [b, show i + 1 + j = i + (j + 1) by omega], c⟩
        by_cases b' : 0 ≤ y ∧ 0 ≤ dv_va e y
        · rw [if_pos b']
          exact List.mem_cons_of_mem _ this
        · rw [if_neg b']
          exact this
theorem dv_gp_len {e : List (Int × Int)} : ∀ {l : List Int} {i : Nat}, (dv_gp e i l).length ≤ l.length
  | [], _ => Nat.le_refl _
  | x :: l, i => by
    have ih := dv_gp_len (e := e) (l := l) (i := i + 1)
    rw [dv_gp_c, List.length_cons]
    by_cases b : 0 ≤ x ∧ 0 ≤ dv_va e x
    · rw [if_pos b, List.length_cons]
      omega
    · rw [if_neg b]
      omega
theorem dv_gp_snd {e : List (Int × Int)} : ∀ {l : List Int} {i : Nat}, ((dv_gp e i l).map Prod.snd).Pairwise (· < ·) ∧ ∀ q ∈ dv_gp e i l, (i : Int) ≤ q.2
  | [], _ => ⟨List.Pairwise.nil, fun _ h => absurd h List.not_mem_nil⟩
  | x :: l, i => by
    obtain ⟨h1, h2⟩ := dv_gp_snd (e := e) (l := l) (i := i + 1)
    rw [dv_gp_c]
    by_cases b : 0 ≤ x ∧ 0 ≤ dv_va e x
    · rw [if_pos b, List.map_cons]
      refine ⟨List.pairwise_cons.mpr ⟨fun y hy => ?_, h1⟩, fun q hq => ?_⟩
      · obtain ⟨q, q1, q2⟩ := List.mem_map.mp hy
        have := h2 q q1
        show (i : Int) < y
        omega
      · rcases List.mem_cons.mp hq with rfl | hq
        · exact Int.le_refl _
        · have := h2 q hq
          omega
    · rw [if_neg b]
      exact ⟨h1, fun q hq => by have := h2 q hq; omega⟩
/-- a good chain: the variable at a level has that level -/
theorem dv_va_lk {L : Int} {e : List (Int × Int)} (h : vx_ck L e) {x : Int} (hx : 0 ≤ dv_va e x) : dv_lk e (dv_va e x) = x := by
  obtain ⟨h1, _⟩ := h trivial
  rcases dv_va_in (l := e) (x := x) with q | ⟨q, _⟩
  · exact dv_lk_mem h1 q
  · omega
theorem dv_lk_va {L : Int} {e : List (Int × Int)} (h : vx_ck L e) {z : Int} (hz : 0 ≤ dv_lk e z) : dv_va e (dv_lk e z) = z ∧ 0 ≤ z := by
  obtain ⟨h1, h2, h3⟩ := h trivial
  rcases dv_lk_in (l := e) (x := z) with q | ⟨q, _⟩
  · refine ⟨?_, (h2 _ q).2.2⟩
    rcases dv_va_in (l := e) (x := dv_lk e z) with q' | ⟨_, q'⟩
    · exact (h3 _ q _ q' hz rfl).symm
    · exact absurd (List.mem_map_of_mem q) q'
  · omega
theorem dv_gp_fst {L : Int} {e : List (Int × Int)} (h : vx_ck L e) : ∀ {l : List Int} {i : Nat}, l.Nodup → ((dv_gp e i l).map Prod.fst).Nodup
  | [], _, _ => List.nodup_nil
  | x :: l, i, hn => by
    obtain ⟨n1, n2⟩ := List.nodup_cons.mp hn
    have ih := dv_gp_fst h (l := l) (i := i + 1) n2
    rw [dv_gp_c]
    by_cases b : 0 ≤ x ∧ 0 ≤ dv_va e x
    · rw [if_pos b, List.map_cons]
      refine List.nodup_cons.mpr ⟨fun m => ?_, ih⟩
      obtain ⟨q, q1, q2⟩ := List.mem_map.mp m
      obtain ⟨j, y, y1, y2, y3, y4⟩ := dv_gp_mem.mp q1
      rw [y2] at q2
      have e1 : dv_va e y = dv_va e x := q2
      have e2 := dv_va_lk h y4
      rw [e1, dv_va_lk h b.2] at e2
      rw [← e2] at y1
      exact n1 (List.mem_of_getElem? y1)
    · rw [if_neg b]
      exact ih
/-- what the pairs say -/
theorem dv_gp_eu {L : Int} {e : List (Int × Int)} (h : vx_ck L e) {xs : List Int} (hn : xs.Nodup) (h0 : ∀ x ∈ xs, 0 ≤ x) : (∀ z (i : Nat), xs[i]? = some (dv_lk e z) → dv_lk (dv_gp e 0 xs).reverse z = (i : Int)) ∧ (∀ z, 0 ≤ dv_lk (dv_gp e 0 xs).reverse z → dv_lk e z = xs.getD (dv_lk (dv_gp e 0 xs).reverse z).toNat (-1) ∧ (dv_lk (dv_gp e 0 xs).reverse z).toNat < xs.length) ∧ ∀ z, dv_lk (dv_gp e 0 xs).reverse z < (xs.length : Int) := by
  have P1 := dv_gp_fst h (i := 0) hn
  have Pr := dv_lk_rev P1
  have key : ∀ z, 0 ≤ dv_lk (dv_gp e 0 xs).reverse z → dv_lk e z = xs.getD (dv_lk (dv_gp e 0 xs).reverse z).toNat (-1) ∧ (dv_lk (dv_gp e 0 xs).reverse z).toNat < xs.length := fun z hz => by
    rcases dv_lk_in (l := (dv_gp e 0 xs).reverse) (x := z) with q | ⟨q, _⟩
    · obtain ⟨j, x, x1, x2, x3, x4⟩ := dv_gp_mem.mp (List.mem_reverse.mp q)
      rw [Nat.zero_add] at x2
      have a1 : z = dv_va e x := (Prod.mk.inj x2).1
      have a2 : dv_lk (dv_gp e 0 xs).reverse z = (j : Int) := (Prod.mk.inj x2).2
      obtain ⟨hj, _⟩ := List.getElem?_eq_some_iff.mp x1
      rw [a2, Int.toNat_natCast, List.getD_eq_getElem?_getD, x1]
      refine ⟨?_, hj⟩
      rw [a1, dv_va_lk h x4]
      rfl
    · omega
  refine ⟨fun z i hi => ?_, key, fun z => ?_⟩
  · have x0 := h0 _ (List.mem_of_getElem? hi)
    obtain ⟨v1, v2⟩ := dv_lk_va h x0
    have m : (z, (i : Int)) ∈ dv_gp e 0 xs := dv_gp_mem.mpr ⟨i, dv_lk e z, hi, by rw [Nat.zero_add, v1], x0, by rw [v1]; exact v2⟩
    exact dv_lk_mem Pr (List.mem_reverse.mpr m)
  · by_cases q : 0 ≤ dv_lk (dv_gp e 0 xs).reverse z
    · have := (key z q).2
      omega
    · omega
