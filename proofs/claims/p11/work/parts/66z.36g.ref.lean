/-! ===== the reference: check, exactly: what holds on the way ===== -/
def px_E (b : Nat → Int) (n m : Int) (C M : List (Int × qx_T)) (s : sx_S) : Prop := True → px_TN b n m s ∧ px_DL 95 96 42 m s C ∧ px_DL 97 123 45 m s M
def px_tb (m : Int) : px_N → Prop
  | .leaf => True
  | .inner _ q _ f x => (0 ≤ q.1 ∧ q.1 < m) ∧ px_tb m f ∧ px_tb m x
theorem px_tb_snoc {m : Int} {b : px_N} : ∀ {a : px_N}, px_tb m (px_snoc a b) → px_tb m a ∧ px_tb m b
  | .leaf, h => ⟨trivial, h⟩
  | .inner _ _ _ _ _, h => ⟨⟨h.1, h.2.1, (px_tb_snoc h.2.2).1⟩, (px_tb_snoc h.2.2).2⟩
section PXC
variable {b : Nat → Int} {n m : Int} {C M Γ : List (Int × qx_T)} {ρ : List Int} {s t u : sx_S} {a o v z x2 x4 : Int} {D N FM X : rf_N} {D' g' f' x' n' : px_N} {q : Int × qx_T} {u0 u1 : Unit} {j : Nat}
/-- what a NAME with ARGs wants, once its head is known -/
theorem px_wt_row {g : Nat} (hg : g ≠ 0) {i : Nat} {U W y : qx_T} {p' : px_N} (hh : px_hd (px_SN b n) C M Γ q.1 o i U) (hD : (px_wt (px_SN b n) C M D').2 Γ U W) (hf : f' = px_snoc D' p') (h : (px_wt (px_SN b n) C M (.inner g q u0 f' x')).1 Γ y) : (px_wt (px_SN b n) C M p').2 Γ W y := by
  rcases h with ⟨h, _⟩ | ⟨_, o', i', U', h1, h2, _⟩
  · exact absurd h hg
  · obtain ⟨_, _, rfl⟩ := px_hd_fun hh h1
    rw [hf] at h2
    obtain ⟨w, h3, h4⟩ := px_wt_snoc.mp h2
    rw [px_wt_fun.2 hD h3]
    exact h4
end PXC
/-- what was bound and declared stays -/
theorem px_E_up {b : Nat → Int} {n m : Int} {C M : List (Int × qx_T)} {s t : sx_S} (h : px_E b n m C M s) (xu : rf_xu s t) (ha : ∀ p, (p = 68 ∨ p = 69 ∨ p = 70 ∨ p = 71 ∨ p = 95 ∨ p = 97 ∨ p = 96 ∨ p = 123) → t.2.1 p = s.2.1 p) (h3 : t.1 66 3 = s.1 66 3) : px_E b n m C M t := by
  intro _
  obtain ⟨a, c, d⟩ := h trivial
  have e42 := (xu.2 0).1.2.2.2.1
  have e45 := (xu.2 0).1.2.2.2.2
  refine ⟨fun _ => ?_, fun _ => ?_, fun _ => ?_⟩
  · obtain ⟨a1, a2, a3⟩ := a trivial
    refine ⟨(ha 68 (by decide)).trans a1, h3.trans a2, fun k hk => ?_⟩
    rw [ha 69 (by decide), ha 70 (by decide), ha 71 (by decide)]
    exact a3 k hk
  · obtain ⟨c1, c2⟩ := c trivial
    refine ⟨by rw [e42]; exact c1, fun k hk => ?_⟩
    obtain ⟨e, d1, d2, d3, d4⟩ := c2 k hk
    rw [ha 95 (by decide), ha 96 (by decide)]
    exact ⟨e, d1, d2, d3, qx_is_up d4 xu.1⟩
  · obtain ⟨c1, c2⟩ := d trivial
    refine ⟨by rw [e45]; exact c1, fun k hk => ?_⟩
    obtain ⟨e, d1, d2, d3, d4⟩ := c2 k hk
    rw [ha 97 (by decide), ha 123 (by decide)]
    exact ⟨e, d1, d2, d3, qx_is_up d4 xu.1⟩
theorem px_E_FC {b : Nat → Int} {n m : Int} {C M : List (Int × qx_T)} {s t : sx_S} {S : List Nat} (h : px_E b n m C M s) (hF : rf_FC s t S) : px_E b n m C M t := px_E_up h hF.2.2.1 (fun p hp => by
  rcases hp with rfl | rfl | rfl | rfl | rfl | rfl | rfl | rfl
  · exact (hF.same 68 rfl).2
  · exact (hF.same 69 rfl).2
  · exact (hF.same 70 rfl).2
  · exact (hF.same 71 rfl).2
  · exact (hF.same 95 rfl).2
  · exact (hF.same 97 rfl).2
  · exact (hF.same 96 rfl).2
  · exact (hF.same 123 rfl).2) (hF.2.1 3 rfl)
theorem px_E_F0 {b : Nat → Int} {n m m' : Int} {C M : List (Int × qx_T)} {s t : sx_S} {S : List Nat} (h : px_E b n m C M s) (hF : rf_F0 m' s t S) : px_E b n m C M t := px_E_up h hF.2.2.1 (fun p hp => by
  rcases hp with rfl | rfl | rfl | rfl | rfl | rfl | rfl | rfl
  · exact (hF.same 68 rfl).2
  · exact (hF.same 69 rfl).2
  · exact (hF.same 70 rfl).2
  · exact (hF.same 71 rfl).2
  · exact (hF.same 95 rfl).2
  · exact (hF.same 97 rfl).2
  · exact (hF.same 96 rfl).2
  · exact (hF.same 123 rfl).2) (hF.2.1 3 rfl)
theorem px_is_F0 {m' : Int} {s t : sx_S} {S : List Nat} (hF : rf_F0 m' s t S) {N : rf_N} {n' : px_N} (h : px_is s N n') : px_is t N n' := px_is_up hF.2.2.1.1 (fun j _ => ⟨by rw [(hF.same 76 rfl).2], by rw [(hF.same 78 rfl).2]⟩) h
theorem px_EV_0 {m : Int} {s t : sx_S} {Γ : List (Int × qx_T)} (h : px_EV m s Γ) (h34 : t.1 66 34 = s.1 66 34) (xu : rf_xu s t) (ag : rf_ag 93 94 (s.1 66 34) s t) : px_EV m t Γ := by
  intro _
  obtain ⟨⟨h1, h2⟩, h3⟩ := h trivial
  refine ⟨⟨by rw [h34]; exact h1, fun k hk => ?_⟩, fun i k hik hk => ?_⟩
  · obtain ⟨e, e1, e2, e3, e4, e5⟩ := h2 k hk
    rw [ag 93 k (by omega) (by omega) (by omega), ag 94 k (by omega) (by omega) (by omega)]
    have e6 := (xu.2 (s.2.1 94 k).toNat).2.1 (by omega)
    have e7 := (xu.2 0).1.1
    refine ⟨e, e1, e2, e3, ⟨e4.1, by omega⟩, ?_⟩
    rw [e6]
    exact qx_is_up e5 xu.1
  · rw [ag 94 i (by omega) (by omega) (by omega), ag 94 k (by omega) (by omega) (by omega)]
    exact h3 i k hik hk
/-- one more bound -/
theorem px_EV_1 {m : Int} {s p : sx_S} {S : List Nat} {Γ : List (Int × qx_T)} {q : Int × qx_T} {z1 : Int} (h : px_EV m s Γ) (f3 : rf_F0 (s.1 66 34) s p S) (e34 : p.1 66 34 = s.1 66 34 + 1) (a93 : p.2.1 93 (s.1 66 34).toNat = q.1) (a94 : p.2.1 94 (s.1 66 34).toNat = z1) (hz : s.1 66 58 ≤ z1) (hz2 : z1 < p.1 66 58) (hz0 : 0 ≤ z1) (ht : 0 ≤ q.1 ∧ q.1 < m) (hty : qx_is p q.2 (p.2.1 106 z1.toNat)) : px_EV m p (q :: Γ) := by
  intro _
  obtain ⟨⟨h1, h2⟩, h3⟩ := h trivial
  have xu := f3.2.2.1
  have ag := f3.2.2.2.1
  have hl : (s.1 66 34).toNat = Γ.length := by omega
  refine ⟨⟨by rw [List.length_cons, e34]; push_cast; omega, fun k hk => ?_⟩, fun i k hik hk => ?_⟩
  · rw [List.length_cons] at hk ⊢
    by_cases hk2 : k < Γ.length
    · obtain ⟨e, e1, e2, e3, e4, e5⟩ := h2 k hk2
      rw [ag 93 k (by omega) (by omega) (by omega), ag 94 k (by omega) (by omega) (by omega)]
      have e6 := (xu.2 (s.2.1 94 k).toNat).2.1 (by omega)
      have e7 := (xu.2 0).1.1
      refine ⟨e, ?_, e2, e3, ⟨e4.1, by omega⟩, ?_⟩
      · rw [show Γ.length + 1 - 1 - k = (Γ.length - 1 - k) + 1 by omega, List.getElem?_cons_succ]
        exact e1
      · rw [e6]
        exact qx_is_up e5 xu.1
    · have ek : k = Γ.length := by omega
      subst ek
      rw [hl] at a93 a94
      refine ⟨q, by rw [show Γ.length + 1 - 1 - Γ.length = 0 by omega]; rfl, a93, ht, by rw [a94]; exact ⟨hz0, hz2⟩, by rw [a94]; exact hty⟩
  · rw [List.length_cons] at hk
    rw [ag 94 i (by omega) (by omega) (by omega)]
    by_cases hk2 : k < Γ.length
    · rw [ag 94 k (by omega) (by omega) (by omega)]
      exact h3 i k hik hk2
    · have ek : k = Γ.length := by omega
      subst ek
      rw [hl] at a94
      rw [a94]
      obtain ⟨e, _, _, _, e4, _⟩ := h2 i (by omega)
      omega
theorem px_ga_len (s : sx_S) : ∀ k : Nat, (rf_ga s k).length = k
  | 0 => rfl
  | k + 1 => by
    show (rf_ga s k).length + 1 = _
    rw [px_ga_len s k]
theorem px_ga_id {s : sx_S} : ∀ {n k : Nat}, k < n → px_id (rf_ga s n) k = s.2.1 94 k
  | 0, k, h => absurd h (Nat.not_lt_zero _)
  | n + 1, k, h => by
    show px_id (s.2.1 94 n :: rf_ga s n) k = _
    by_cases hk : k < n
    · rw [px_id_cons (by rw [px_ga_len]; exact hk)]
      exact px_ga_id hk
    · have e : k = (rf_ga s n).length := by
        rw [px_ga_len]
        omega
      rw [e, px_id_top, px_ga_len]
theorem px_ga_so {s : sx_S} : ∀ {n : Nat}, (∀ j k : Nat, j < k → k < n → s.2.1 94 j < s.2.1 94 k) → px_so (rf_ga s n)
  | 0, _ => trivial
  | n + 1, h => by
    refine ⟨fun x hx => ?_, px_ga_so (fun j k a b => h j k a (by omega))⟩
    obtain ⟨i, hi, e⟩ := List.getElem_of_mem hx
    rw [px_ga_len] at hi
    have e2 : px_id (rf_ga s n) (n - 1 - i) = x := by
      unfold px_id
      rw [px_ga_len, show n - 1 - (n - 1 - i) = i by omega, List.getElem?_eq_getElem (by rw [px_ga_len]; exact hi), e]
      rfl
    rw [← e2, px_ga_id (by omega)]
    exact h _ _ (by omega) (by omega)
theorem px_EV_so {m : Int} {s : sx_S} {Γ : List (Int × qx_T)} (h : px_EV m s Γ) : px_so (rf_ga s (s.1 66 34).toNat) ∧ (rf_ga s (s.1 66 34).toNat).length = Γ.length ∧ ∀ k, k < Γ.length → s.2.1 94 k = px_id (rf_ga s (s.1 66 34).toNat) k := by
  obtain ⟨⟨h1, h2⟩, h3⟩ := h trivial
  have e : (s.1 66 34).toNat = Γ.length := by omega
  rw [e]
  exact ⟨px_ga_so h3, px_ga_len _ _, fun k hk => (px_ga_id hk).symm⟩
theorem px_EV_lt {m : Int} {s : sx_S} {Γ : List (Int × qx_T)} (h : px_EV m s Γ) : ∀ x ∈ rf_ga s (s.1 66 34).toNat, x < s.1 66 58 := by
  obtain ⟨⟨h1, h2⟩, h3⟩ := h trivial
  intro x hx
  have e : (s.1 66 34).toNat = Γ.length := by omega
  rw [e] at hx
  obtain ⟨i, hi, e2⟩ := List.getElem_of_mem hx
  rw [px_ga_len] at hi
  have e3 : px_id (rf_ga s Γ.length) (Γ.length - 1 - i) = x := by
    unfold px_id
    rw [px_ga_len, show Γ.length - 1 - (Γ.length - 1 - i) = i by omega, List.getElem?_eq_getElem (by rw [px_ga_len]; exact hi), e2]
    rfl
  rw [← e3, px_ga_id (by omega)]
  obtain ⟨_, _, _, _, e4, _⟩ := h2 (Γ.length - 1 - i) (by omega)
  exact e4.2
