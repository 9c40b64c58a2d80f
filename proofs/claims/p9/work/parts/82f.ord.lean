/-! ===== numbers and orders of open unknowns ===== -/
theorem we_rnk_cg {D D' : Nat → Int} {n k : Nat} (h : ∀ i, i < n → D i = D' i) (hk : k < n) : rf_rnk D n k = rf_rnk D' n k := by
  have e : ∀ i, i < n → rf_r1 D k i = rf_r1 D' k i := fun i hi => by
    unfold rf_r1
    rw [h i hi, h k hk]
  exact Nat.le_antisymm (rf_sum_le2 (fun i hi => Nat.le_of_eq (e i hi))) (rf_sum_le2 (fun i hi => Nat.le_of_eq (e i hi).symm))
theorem we_find {a : List (Int × List Int)} {h : Int} {xs : List Int} : ∀ {i : Nat}, (a.map Prod.fst).Nodup → a[i]? = some (h, xs) → a.find? (fun p => decide (p.1 = h)) = some (h, xs) := by
  induction a with
  | nil => intro i _ hi; simp at hi
  | cons p a ih =>
    intro i hn hi
    rw [List.map_cons] at hn
    obtain ⟨n1, n2⟩ := List.nodup_cons.mp hn
    cases i with
    | zero =>
      rw [List.getElem?_cons_zero] at hi
      have e := Option.some.inj hi
      subst e
      rw [List.find?_cons_of_pos (by exact decide_eq_true rfl)]
    | succ i =>
      rw [List.getElem?_cons_succ] at hi
      have hm : h ∈ a.map Prod.fst := List.mem_map.mpr ⟨(h, xs), List.mem_of_getElem? hi, rfl⟩
      have hne : p.1 ≠ h := fun e => n1 (by rw [e]; exact hm)
      rw [List.find?_cons_of_neg (by rw [decide_eq_false hne]; decide)]
      exact ih n2 hi
theorem we_rw_at {a : List (Int × List Int)} {h : Int} {xs : List Int} {i : Nat} (hn : (a.map Prod.fst).Nodup) (hi : a[i]? = some (h, xs)) : we_rw a h = xs := by
  unfold we_rw
  rw [we_find hn hi]
  rfl
theorem we_ii_at {a : List (Int × List Int)} {h : Int} {xs : List Int} {i : Nat} (hn : (a.map Prod.fst).Nodup) (hi : a[i]? = some (h, xs)) : vx_ii (a.map Prod.fst) h = (i : Int) := vx_ii_at hn (by rw [List.getElem?_map, hi]; rfl)
theorem we_od_at {xs : List Int} {k : Nat} (hx : ∀ p q : Nat, p < xs.length → q < xs.length → xs.getD p (-1) = xs.getD q (-1) → p = q) (hk : k < xs.length) : we_od xs (rf_rnk (fun i => xs.getD i (-1)) xs.length k) = k := by
  unfold we_od
  cases hf : (List.range xs.length).find? (fun j => decide (rf_rnk (fun i => xs.getD i (-1)) xs.length j = rf_rnk (fun i => xs.getD i (-1)) xs.length k)) with
  | none =>
    have := List.find?_eq_none.mp hf k (List.mem_range.mpr hk)
    exact absurd (decide_eq_true rfl) this
  | some j =>
    have h1 := List.find?_some hf
    have h2 := List.mem_range.mp (List.mem_of_find?_eq_some hf)
    exact rf_rnk_inj (D := fun i => xs.getD i (-1)) hx h2 hk (of_decide_eq_true h1)
/-- an open unknown that is numbered: its number, its order -/
theorem we_N_at {s : sx_S} {a : List (Int × List Int)} {m : Int} (h : we_N s a) (m0 : 0 ≤ m) (m1 : m < s.1 66 61) (r108 : 0 ≤ rf_aa s m ∧ rf_aa s m ≤ 4) (hm : -1 - m ∈ a.map Prod.fst) : s.2.1 118 m.toNat = vx_ii (a.map Prod.fst) (-1 - m) ∧ s.2.1 118 m.toNat ≠ -1 ∧ ∀ p : Nat, (p : Int) < rf_aa s m → s.2.1 121 (s.2.1 120 m.toNat + (p : Int)).toNat = ((we_od (we_rw a (-1 - m)) p : Nat) : Int) := by
  obtain ⟨_, hn, h3⟩ := h trivial
  rcases h3 m m0 m1 with ⟨_, c⟩ | ⟨i, xs, c1, c2, c3, c4, c5⟩
  · exact absurd hm c
  · refine ⟨by rw [we_ii_at hn c1]; exact c2, by omega, fun p hp => ?_⟩
    rw [we_rw_at hn c1]
    obtain ⟨k, k1, k2⟩ := rf_rnk_sur (D := fun i => xs.getD i (-1)) (n := xs.length) (by omega) c4 (r := p) (by omega)
    have := c5 k k1
    rw [k2] at this
    rw [this, ← k2, we_od_at c4 k1]
theorem we_N_no {s : sx_S} {a : List (Int × List Int)} {m : Int} (h : we_N s a) (m0 : 0 ≤ m) (m1 : m < s.1 66 61) : s.2.1 118 m.toNat = -1 ↔ -1 - m ∉ a.map Prod.fst := by
  obtain ⟨_, _, h3⟩ := h trivial
  rcases h3 m m0 m1 with ⟨c1, c2⟩ | ⟨i, xs, c1, c2, _⟩
  · exact ⟨fun _ => c2, fun _ => c1⟩
  · refine ⟨fun c => by omega, fun c => absurd ?_ c⟩
    exact List.mem_map.mpr ⟨(-1 - m, xs), List.mem_of_getElem? c1, rfl⟩
/-- one more is numbered -/
theorem we_N_add {s u : sx_S} {a : List (Int × List Int)} {m v : Int} {D : Nat → Int} (h : we_N s a) (m0 : 0 ≤ m) (m1 : m < s.1 66 61) (hs : s.2.1 118 m.toNat = -1) (hO : rf_OD s) (r108 : 0 ≤ s.2.1 108 m.toNat ∧ s.2.1 108 m.toNat ≤ 4) (hD : ∀ a b, a < (s.2.1 108 m.toNat).toNat → b < (s.2.1 108 m.toNat).toNat → D a = D b → a = b) (hA : rf_FA s u m D (s.2.1 108 m.toNat)) : we_N (sx_uf u.1 66 83 v, u.2) (a ++ [(-1 - m, (List.range (s.2.1 108 m.toNat).toNat).map D)]) := fun _ => by
  have hno := (we_N_no h m0 m1).mp hs
  obtain ⟨h1, h2, h3⟩ := h trivial
  obtain ⟨⟨a1, a2, a3, a4⟩, a5, a6, a7, a8⟩ := hA
  have o : ∀ k, k ≠ 83 → sx_uf u.1 66 83 v 66 k = u.1 66 k := fun k hk => by
    rw [sx_uf_if]
    exact if_neg (fun c => hk c.2)
  have e61 := a3 61 rfl
  have e108 : u.2.1 108 = s.2.1 108 := (a2.same 108 rfl).2
  have hlen : ((List.range (s.2.1 108 m.toNat).toNat).map D).length = (s.2.1 108 m.toNat).toNat := by rw [List.length_map, List.length_range]
  have hget : ∀ i, i < (s.2.1 108 m.toNat).toNat → ((List.range (s.2.1 108 m.toNat).toNat).map D).getD i (-1) = D i := fun i hi => vx_getD (by rw [List.getElem?_map, List.getElem?_range hi]; rfl)
  dsimp only
  unfold rf_aa
  rw [o 79 (by decide), o 61 (by decide), e61, a4]
  refine ⟨by rw [List.length_append, h1]; rfl, ?_, fun x x0 x1 => ?_⟩
  · rw [List.map_append, List.nodup_append]
    refine ⟨h2, List.nodup_cons.mpr ⟨List.not_mem_nil, List.nodup_nil⟩, fun z hz w hw e => hno ?_⟩
    have : w = -1 - m := List.mem_singleton.mp hw
    rw [← this, ← e]
    exact hz
  · by_cases c : x = m
    · subst c
      refine Or.inr ⟨a.length, _, by rw [List.getElem?_append_right (Nat.le_refl _), Nat.sub_self]; rfl, by rw [a5, if_pos rfl]; exact h1, by rw [hlen, e108]; omega, fun p q hp hq e => ?_, fun k hk => ?_⟩
      · rw [hlen] at hp hq
        rw [hget p hp, hget q hq] at e
        exact hD p q hp hq e
      · rw [hlen] at hk
        rw [hlen, we_rnk_cg (D' := D) hget hk, a6, if_pos rfl]
        exact a8 k (by omega)
    · have hxn : x.toNat ≠ m.toNat := by omega
      rcases h3 x x0 x1 with ⟨c1, c2⟩ | ⟨i, xs, c1, c2, c3, c4, c5⟩
      · refine Or.inl ⟨by rw [a5, if_neg hxn]; exact c1, ?_⟩
        rw [List.map_append, List.mem_append]
        rintro (z | z)
        · exact c2 z
        · have : -1 - x = -1 - m := List.mem_singleton.mp z
          omega
      · refine Or.inr ⟨i, xs, ?_, by rw [a5, if_neg hxn]; exact c2, by rw [e108]; exact c3, c4, fun k hk => ?_⟩
        · have hi : i < a.length := (List.getElem?_eq_some_iff.mp c1).1
          rw [List.getElem?_append_left hi]
          exact c1
        · have hne : s.2.1 118 x.toNat ≠ -1 := by omega
          obtain ⟨⟨o1, o2⟩, _⟩ := hO.2 x.toNat (by omega) hne
          have hrk := rf_rnk_lt (D := fun i => xs.getD i (-1)) (n := xs.length) hk
          have c3' : (xs.length : Int) = s.2.1 108 x.toNat := c3
          rw [a6, if_neg hxn, a7 _ (by omega)]
          exact c5 k hk
