/-! ===== the reference: equation ===== -/
/-- a side of an equation, built -/
def rf_EQ (s : sx_S) (z : Int) (x : rf_T) : Prop := ∃ N, rf_no s N z ∧ (rf_gt (rf_H s) rf_P N).1 x ∧ (rf_sc (rf_G s) N).1 [] ∧ (rf_wh N).1 ≤ 200
def rf_ES (s : sx_S) : Prop := ∀ e : Nat, (e : Int) < s.1 66 47 → ∃ x, rf_EQ s (s.2.1 98 e) x ∧ rf_EQ s (s.2.1 99 e) x
theorem rf_EQ_up {s t : sx_S} (ha : rf_ag 100 103 (s.1 66 50) s t) (hx : rf_xu s t) {z : Int} {x : rf_T} (h : rf_EQ s z x) : rf_EQ t z x := by
  obtain ⟨N, h1, h2, h3, h4⟩ := h
  exact ⟨N, rf_no_up ha (hx.2 0).1.2.2.1 h1, (rf_gt_up hx h1).1 _ h2, (rf_sc_up hx h1).1 _ h3, h4⟩
theorem rf_ES_up {s t : sx_S} (ha : rf_ag 100 103 (s.1 66 50) s t) (hx : rf_xu s t) (h47 : t.1 66 47 = s.1 66 47) (h98 : t.2.1 98 = s.2.1 98) (h99 : t.2.1 99 = s.2.1 99) (h : rf_ES s) : rf_ES t := by
  intro e he
  obtain ⟨x, h1, h2⟩ := h e (by omega)
  rw [h98, h99]
  exact ⟨x, rf_EQ_up ha hx h1, rf_EQ_up ha hx h2⟩
theorem rf_nd_len {l : List Nat} {lo hi : Nat} (hn : l.Nodup) (h : ∀ j ∈ l, lo ≤ j ∧ j < hi) : l.length ≤ hi - lo := by
  have h1 := rf_lsum_le (fun j => if lo ≤ j then 1 else 0) hi l hn (fun j hj => (h j hj).2)
  have h2 : ∀ l : List Nat, (∀ j ∈ l, lo ≤ j) → rf_lsum (fun j => if lo ≤ j then 1 else 0) l = l.length := by
    intro l
    induction l with
    | nil => exact fun _ => rfl
    | cons a l ih =>
      intro q
      show (if lo ≤ a then 1 else 0) + rf_lsum _ l = l.length + 1
      rw [ih (fun j hj => q j (List.mem_cons_of_mem _ hj)), if_pos (q a List.mem_cons_self)]
      omega
  have h3 : ∀ n, rf_sum (fun j => if lo ≤ j then 1 else 0) n = n - lo := by
    intro n
    induction n with
    | zero => exact (Nat.zero_sub _).symm
    | succ n ih =>
      show rf_sum _ n + (if lo ≤ n then 1 else 0) = _
      rw [ih]
      split <;> omega
  rw [h2 l (fun j hj => (h j hj).1), h3] at h1
  exact h1
theorem rf_tr_len {n : rf_N} {lo hi : Int} (h0 : 0 ≤ lo) (hn : (rf_idx n).Nodup) (h : ∀ j ∈ rf_idx n, lo ≤ (j : Int) ∧ (j : Int) < hi) : (rf_s1 n : Int) ≤ hi - lo ∨ (rf_s1 n = 0) := by
  have h1 := rf_nd_len (lo := lo.toNat) (hi := hi.toNat) hn (fun j hj => by have := h j hj; omega)
  have h2 := rf_s1_le (f := n)
  cases n with
  | leaf => exact Or.inr rfl
  | inner j k u f x =>
    refine Or.inl ?_
    have := h j List.mem_cons_self
    omega
theorem rf_hx_gt {s : sx_S} : ∀ {m : rf_N} {x : rf_T}, (rf_gt (rf_RH s) (rf_RP s) m).1 x → rf_hx x ≤ (rf_ht m).1 + 5
  | .leaf, _, h => h.elim
  | .inner j k u f y, x, h => by
    rcases h with ⟨h1, A, B, h2, h3, h4⟩ | ⟨h1, U, h2, h3, _⟩
    · have a1 := rf_hx_gt h4
      have a2 := rf_hx_at A
      have a3 := h3.1
      rw [rf_ht_0 h1, h2]
      show max (rf_hx A) (rf_hx B) + 1 ≤ _
      omega
    · have a1 := rf_gt_at h3
      have a2 := rf_hx_at x
      have a3 := h2.1
      omega
/-- what an equation leaves as it was -/
def rf_FQ (s t : sx_S) : Prop := (∀ p, cx_out [(66, 66), (72, 73), (82, 84), (93, 94), (98, 106)] p → t.1 p = s.1 p ∧ t.2.1 p = s.2.1 p) ∧ rf_f [9, 40, 41, 47, 50, 56, 58] s t ∧ rf_xu s t ∧ rf_ag 100 103 (s.1 66 50) s t ∧ s.2.2.2 ≤ t.2.2.2
theorem rf_FQ_C {s t : sx_S} {S : List Nat} (h : rf_FC s t S) : rf_FQ s t := by
  obtain ⟨a1, a2, a3, a4, a5, a6, a7, a8⟩ := h
  exact ⟨fun p hp => a1 p (cx_le_ok (W := [(66, 66), (72, 73), (82, 84), (93, 94), (98, 106)]) rfl hp), rf_f_step a2 rfl (rf_f_refl _ _), a3, a6, a8⟩
theorem rf_FQ_trans {s t u : sx_S} (h2 : rf_FQ t u) (h1 : rf_FQ s t) : rf_FQ s u := by
  obtain ⟨a1, a2, a3, a4, a5⟩ := h1
  obtain ⟨b1, b2, b3, b4, b5⟩ := h2
  exact ⟨fun p hp => ⟨(b1 p hp).1.trans (a1 p hp).1, (b1 p hp).2.trans (a1 p hp).2⟩, rf_f_step b2 rfl a2, rf_xu_trans b3 a3, rf_ag_trans b4 (a3.2 0).1.2.2.1 a4, Nat.le_trans a5 b5⟩
theorem rf_FQ_98 {s : sx_S} {p n : Nat} {v : Int} (hp : p = 98 ∨ p = 99) : rf_FQ s (s.1, sx_ua s.2.1 p n v, s.2.2) := by
  have e : ∀ q, q ≠ p → sx_ua s.2.1 p n v q = s.2.1 q := fun q hq => sx_ua_ne hq
  refine ⟨fun q hq => ⟨rfl, e q ?_⟩, rf_f_refl _ _, rf_xu_arr rfl (fun q hq => e q (by omega)), fun q j h1 h2 _ => ?_, Nat.le_refl _⟩
  · have := hq (98, 106) (by simp)
    dsimp only at this
    omega
  · dsimp only
    rw [e q (by omega)]
theorem rf_FQ_47 {s : sx_S} {w : Int} : rf_FQ s (sx_uf s.1 66 47 w, s.2) := by
  have e : ∀ q, q ≠ 47 → sx_uf s.1 66 47 w 66 q = s.1 66 q := fun q hq => by
    rw [sx_uf_if]
    exact if_neg (fun c => hq c.2)
  refine ⟨fun p hp => ⟨?_, rfl⟩, rf_f_uf rfl (F := s.1) (B := s.2) (rf_f_refl _ _), ⟨fun j => ?_, fun j => ?_⟩, rf_ag_refl _ _ _ _, Nat.le_refl _⟩
  · have := hp (66, 66) (by simp)
    dsimp only at this
    show sx_uf s.1 66 47 w p = _
    rw [sx_fv_ne (by omega)]
  · dsimp only
    rw [e 9 (by decide)]
    exact ⟨Int.le_refl _, fun _ => ⟨rfl, rfl⟩⟩
  · dsimp only
    rw [e 58 (by decide), e 56 (by decide), e 50 (by decide), e 42 (by decide), e 45 (by decide)]
    exact ⟨⟨Int.le_refl _, Int.le_refl _, Int.le_refl _, rfl, rfl⟩, fun _ => rfl, fun _ => rfl, fun _ => rfl, rfl, rfl⟩
theorem rf_ym_arr {s t : sx_S} {n : rf_N} {i : Int} (h12 : t.1 66 12 = s.1 66 12) (ha : ∀ p, (p = 74 ∨ p = 80 ∨ p = 81 ∨ p = 82 ∨ p = 83) → t.2.1 p = s.2.1 p) (g : rf_ym s n i) : rf_ym t n i := by
  refine rf_nd_mono (Int.le_of_eq h12.symm) (fun j _ => ⟨rf_rk_eq (by rw [ha 74 (by decide)]) (by rw [ha 83 (by decide)]), by rw [ha 82 (by decide)], by rw [ha 80 (by decide)], by rw [ha 81 (by decide)]⟩) g
