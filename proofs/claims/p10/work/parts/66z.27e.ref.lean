/-! ===== the reference: writeFresh ===== -/
theorem rf_sum_le2 {f h : Nat → Nat} : ∀ {n : Nat}, (∀ i, i < n → f i ≤ h i) → rf_sum f n ≤ rf_sum h n
  | 0, _ => Nat.le_refl _
  | n + 1, q => by
    have h1 := rf_sum_le2 (n := n) (fun i hi => q i (by omega))
    have h2 := q n (by omega)
    rw [rf_sum_s, rf_sum_s]
    omega
theorem rf_sum_lt2 {f h : Nat → Nat} {j : Nat} : ∀ {n : Nat}, j < n → (∀ i, i < n → f i ≤ h i) → f j < h j → rf_sum f n < rf_sum h n
  | 0, hj, _, _ => absurd hj (Nat.not_lt_zero _)
  | n + 1, hj, q, hl => by
    rw [rf_sum_s, rf_sum_s]
    by_cases e : j = n
    · have h1 := rf_sum_le2 (n := n) (fun i hi => q i (by omega))
      rw [e] at hl
      omega
    · have h1 := rf_sum_lt2 (n := n) (by omega) (fun i hi => q i (by omega)) hl
      have h2 := q n (by omega)
      omega
/-- how many lie below the k-th -/
def rf_r1 (D : Nat → Int) (k j : Nat) : Nat := if D j < D k then 1 else 0
def rf_rnk (D : Nat → Int) (n k : Nat) : Nat := rf_sum (rf_r1 D k) n
theorem rf_one_sum : ∀ n : Nat, rf_sum (fun _ => 1) n = n
  | 0 => rfl
  | n + 1 => by
    rw [rf_sum_s, rf_one_sum n]
theorem rf_r1_le (D : Nat → Int) (k j : Nat) : rf_r1 D k j ≤ 1 := by
  unfold rf_r1
  by_cases c : D j < D k
  · rw [if_pos c]
    omega
  · rw [if_neg c]
    omega
theorem rf_rnk_lt {D : Nat → Int} {n k : Nat} (hk : k < n) : rf_rnk D n k < n := by
  have h1 : rf_r1 D k k < 1 := by
    unfold rf_r1
    rw [if_neg (by omega)]
    omega
  have := rf_sum_lt2 (f := rf_r1 D k) (h := fun _ => 1) (j := k) (n := n) hk (fun i _ => rf_r1_le D k i) h1
  rw [rf_one_sum] at this
  exact this
theorem rf_rnk_mono {D : Nat → Int} {n j k : Nat} (hj : j < n) (h : D j < D k) : rf_rnk D n j < rf_rnk D n k := by
  refine rf_sum_lt2 (j := j) hj (fun i _ => ?_) ?_
  · unfold rf_r1
    by_cases c : D i < D j
    · rw [if_pos c, if_pos (by omega)]
      omega
    · rw [if_neg c]
      omega
  · unfold rf_r1
    rw [if_neg (by omega), if_pos h]
    omega
theorem rf_rnk_inj {D : Nat → Int} {n j k : Nat} (hD : ∀ a b, a < n → b < n → D a = D b → a = b) (hj : j < n) (hk : k < n) (h : rf_rnk D n j = rf_rnk D n k) : j = k := by
  by_cases c : D j = D k
  · exact hD j k hj hk c
  · by_cases c2 : D j < D k
    · have := rf_rnk_mono (n := n) hj c2
      omega
    · have := rf_rnk_mono (D := D) (n := n) hk (show D k < D j by omega)
      omega
theorem rf_rnk_sur {D : Nat → Int} {n : Nat} (hn : n ≤ 4) (hD : ∀ a b, a < n → b < n → D a = D b → a = b) {r : Nat} (hr : r < n) : ∃ k, k < n ∧ rf_rnk D n k = r := by
  refine Classical.byContradiction (fun hc => ?_)
  have hne : ∀ k, k < n → rf_rnk D n k ≠ r := fun k hk e => hc ⟨k, hk, e⟩
  have hlt : ∀ k, k < n → rf_rnk D n k < n := fun k hk => rf_rnk_lt hk
  have hin : ∀ j k, j < n → k < n → rf_rnk D n j = rf_rnk D n k → j = k := fun j k hj hk e => rf_rnk_inj hD hj hk e
  have hcase : n = 1 ∨ n = 2 ∨ n = 3 ∨ n = 4 := by omega
  rcases hcase with rfl | rfl | rfl | rfl
  · have a0 := hne 0 (by omega)
    have b0 := hlt 0 (by omega)
    omega
  · have a0 := hne 0 (by omega)
    have a1 := hne 1 (by omega)
    have b0 := hlt 0 (by omega)
    have b1 := hlt 1 (by omega)
    have c01 := fun e => hin 0 1 (by omega) (by omega) e
    omega
  · have a0 := hne 0 (by omega)
    have a1 := hne 1 (by omega)
    have a2 := hne 2 (by omega)
    have b0 := hlt 0 (by omega)
    have b1 := hlt 1 (by omega)
    have b2 := hlt 2 (by omega)
    have c01 := fun e => hin 0 1 (by omega) (by omega) e
    have c02 := fun e => hin 0 2 (by omega) (by omega) e
    have c12 := fun e => hin 1 2 (by omega) (by omega) e
    omega
  · have a0 := hne 0 (by omega)
    have a1 := hne 1 (by omega)
    have a2 := hne 2 (by omega)
    have a3 := hne 3 (by omega)
    have b0 := hlt 0 (by omega)
    have b1 := hlt 1 (by omega)
    have b2 := hlt 2 (by omega)
    have b3 := hlt 3 (by omega)
    have c01 := fun e => hin 0 1 (by omega) (by omega) e
    have c02 := fun e => hin 0 2 (by omega) (by omega) e
    have c03 := fun e => hin 0 3 (by omega) (by omega) e
    have c12 := fun e => hin 1 2 (by omega) (by omega) e
    have c13 := fun e => hin 1 3 (by omega) (by omega) e
    have c23 := fun e => hin 2 3 (by omega) (by omega) e
    omega
/-- an open unknown gets its number, and its order is made -/
def rf_FA (s u : sx_S) (m : Int) (D : Nat → Int) (x5 : Int) : Prop := (cx_I u ∧ cx_F [(66, 66), (118, 118), (120, 121)] s u ∧ rf_f [79] s u ∧ u.1 66 79 = s.1 66 79 + 1) ∧ (∀ j : Nat, u.2.1 118 j = if j = m.toNat then s.1 66 79 else s.2.1 118 j) ∧ (∀ j : Nat, u.2.1 120 j = if j = m.toNat then s.1 66 83 else s.2.1 120 j) ∧ (∀ j : Nat, (j : Int) < s.1 66 83 → u.2.1 121 j = s.2.1 121 j) ∧ ∀ k : Nat, (k : Int) < x5 → u.2.1 121 (s.1 66 83 + ((rf_rnk D (s.2.1 108 m.toNat).toNat k : Nat) : Int)).toNat = (k : Int)
theorem rf_FA_OD {s u : sx_S} {m : Int} {D : Nat → Int} {v : Int} (hm : 0 ≤ m ∧ m < s.1 66 61) (hs : s.2.1 118 m.toNat = -1) (hO : rf_OD s) (r108 : 0 ≤ s.2.1 108 m.toNat ∧ s.2.1 108 m.toNat ≤ 4) (hD : ∀ a b, a < (s.2.1 108 m.toNat).toNat → b < (s.2.1 108 m.toNat).toNat → D a = D b → a = b) (h : rf_FA s u m D (s.2.1 108 m.toNat)) (hv : v = s.1 66 83 + s.2.1 108 m.toNat) : rf_OD (sx_uf u.1 66 83 v, u.2) := by
  obtain ⟨⟨h1, h2, h3, h4⟩, h5, h6, h7, h8⟩ := h
  obtain ⟨⟨o1, o2, o3⟩, o4⟩ := hO
  have e61 := h3 61 rfl
  have e83 : sx_uf u.1 66 83 v 66 83 = v := by
    rw [sx_uf_if]
    exact if_pos ⟨rfl, rfl⟩
  have o : ∀ k, k ≠ 83 → sx_uf u.1 66 83 v 66 k = u.1 66 k := fun k hk => by
    rw [sx_uf_if]
    exact if_neg (fun c => hk c.2)
  have e108 : u.2.1 108 = s.2.1 108 := (h2.same 108 rfl).2
  have hsum : rf_sum (fun x => if u.2.1 118 x = -1 then 0 else 5) (s.1 66 61).toNat = rf_sum (fun x => if s.2.1 118 x = -1 then 0 else 5) (s.1 66 61).toNat + 5 := by
    have q1 := rf_sum_upd (f := fun x => if u.2.1 118 x = -1 then 0 else 5) (g := fun x => if s.2.1 118 x = -1 then 0 else 5) (x := m.toNat) (n := (s.1 66 61).toNat) (by omega) (fun j hj => by
      show (if u.2.1 118 j = -1 then 0 else 5) = (if s.2.1 118 j = -1 then 0 else 5)
      rw [h5 j, if_neg hj])
    have q2 : (if u.2.1 118 m.toNat = -1 then (0 : Nat) else 5) = 5 := by
      rw [h5, if_pos rfl, if_neg (by omega)]
    have q3 : (if s.2.1 118 m.toNat = -1 then (0 : Nat) else 5) = 0 := if_pos hs
    rw [q2, q3] at q1
    omega
  refine ⟨⟨?_, ?_, ?_⟩, fun q hq hne => ?_⟩
  · show 0 ≤ sx_uf u.1 66 83 v 66 83
    omega
  · show 0 ≤ sx_uf u.1 66 83 v 66 79
    rw [o 79 (by decide)]
    omega
  · show sx_uf u.1 66 83 v 66 83 + sx_uf u.1 66 83 v 66 79 ≤ ((rf_sum (fun x => if u.2.1 118 x = -1 then 0 else 5) (sx_uf u.1 66 83 v 66 61).toNat : Nat) : Int)
    rw [e83, o 79 (by decide), o 61 (by decide), e61, hsum]
    push_cast
    omega
  · have hq2 : (q : Int) < s.1 66 61 := by
      have : (q : Int) < sx_uf u.1 66 83 v 66 61 := hq
      rw [o 61 (by decide)] at this
      omega
    have hne2 : u.2.1 118 q ≠ -1 := hne
    show (0 ≤ u.2.1 120 q ∧ u.2.1 120 q + u.2.1 108 q ≤ sx_uf u.1 66 83 v 66 83) ∧ ∀ r : Nat, (r : Int) < u.2.1 108 q → 0 ≤ u.2.1 121 (u.2.1 120 q + (r : Int)).toNat ∧ u.2.1 121 (u.2.1 120 q + (r : Int)).toNat < u.2.1 108 q
    rw [e83, e108, h6 q]
    by_cases c : q = m.toNat
    · rw [if_pos c, c]
      refine ⟨by omega, fun r hr => ?_⟩
      obtain ⟨k, k1, k2⟩ := rf_rnk_sur (n := (s.2.1 108 m.toNat).toNat) (by omega) hD (r := r) (by omega)
      have := h8 k (by omega)
      rw [k2] at this
      rw [this]
      omega
    · rw [if_neg c]
      rw [h5 q, if_neg c] at hne2
      obtain ⟨w1, w2⟩ := o4 q hq2 hne2
      refine ⟨by omega, fun r hr => ?_⟩
      rw [h7 _ (by omega)]
      exact w2 r hr
