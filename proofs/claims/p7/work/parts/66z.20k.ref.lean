/-! ===== the reference: items ===== -/
def rf_e1 (s : sx_S) : Prop := ∃ x : rf_T, rf_is s x (s.2.1 87 (s.1 66 24).toNat) ∧ s.1 66 33 = (rf_at x : Int)
def rf_ty1 (s : sx_S) (k : Nat) : Prop := ∃ x : rf_T, rf_is s x (s.2.1 87 k) ∧ s.2.1 89 k = (rf_at x : Int)
def rf_k23 (s : sx_S) : Prop := True → s.2.1 85 (s.1 66 24).toNat = 2 ∨ s.2.1 85 (s.1 66 24).toNat = 3
def rf_k4 (s : sx_S) : Prop := True → s.2.1 85 (s.1 66 24).toNat = 4
/-- item k, its nodes from lo up to hi -/
def rf_itm (s : sx_S) (k : Nat) (lo hi : Int) : Prop := ((s.2.1 85 k = 2 ∨ s.2.1 85 k = 3) ∧ lo ≤ hi ∧ rf_ty1 s k) ∨ (s.2.1 85 k = 4 ∧ ∃ mid, (lo ≤ mid ∧ mid ≤ hi ∧ 0 ≤ s.2.1 90 k ∧ 0 ≤ s.2.1 91 k) ∧ rf_tr lo mid 22 s (s.2.1 90 k) ∧ rf_tr mid hi 22 s (s.2.1 91 k))
def rf_its (s : sx_S) (n hi : Int) : Prop := ∃ L : Nat → Int, 0 ≤ L 0 ∧ L n.toNat = hi ∧ ∀ k : Nat, (k : Int) < n → rf_itm s k (L k) (L (k + 1)) ∧ L (k + 1) ≤ hi
/-- of the items none below n has changed -/
def rf_ie (n : Int) (s t : sx_S) : Prop := ∀ p k : Nat, 85 ≤ p → p ≤ 92 → (k : Int) < n → t.2.1 p k = s.2.1 p k
theorem rf_ie_refl (n : Int) (s : sx_S) : rf_ie n s s := fun _ _ _ _ _ => rfl
theorem rf_ie_uf {n : Int} {s : sx_S} {F : Nat → Nat → Int} {B : (Nat → Nat → Int) × (Nat → Nat → Int) × Nat} {p k : Nat} {v : Int} (h : rf_ie n s (F, B)) : rf_ie n s (sx_uf F p k v, B) := h
theorem rf_ie_ua {n : Int} {s : sx_S} {F A : Nat → Nat → Int} {B : (Nat → Nat → Int) × Nat} {p : Nat} {k v : Int} (hk : n ≤ k) (hk0 : 0 ≤ k) (h : rf_ie n s (F, A, B)) : rf_ie n s (F, sx_ua A p k.toNat v, B) := by
  intro q j h1 h2 h3
  show sx_ua A p k.toNat v q j = _
  rw [sx_ua_if]
  split
  · rw [if_neg (by omega)]
    exact h q j h1 h2 h3
  · exact h q j h1 h2 h3
theorem rf_ie_F {V : List (Nat × Nat)} {n : Int} {s t u : sx_S} (hF : cx_F V t u) (hV : (List.range 8).all (fun i => cx_outb V (85 + i)) = true) (h : rf_ie n s t) : rf_ie n s u := by
  intro p j a b c
  have := List.all_eq_true.mp hV (p - 85) (List.mem_range.mpr (by omega))
  rw [show 85 + (p - 85) = p by omega] at this
  rw [(hF.same p this).2]
  exact h p j a b c
theorem rf_ty1_up {s t : sx_S} {k : Nat} (h : rf_ty1 s k) (hu : rf_tu s t) (h1 : t.2.1 87 k = s.2.1 87 k) (h2 : t.2.1 89 k = s.2.1 89 k) : rf_ty1 t k := by
  obtain ⟨x, a, b⟩ := h
  refine ⟨x, ?_, h2.trans b⟩
  rw [h1]
  exact rf_is_up a hu
theorem rf_itm_up {s t : sx_S} {k : Nat} {lo hi m : Int} (h : rf_itm s k lo hi) (he : ∀ p : Nat, 85 ≤ p → p ≤ 92 → t.2.1 p k = s.2.1 p k) (hn : rf_nt m s t) (hm : hi ≤ m) (hu : rf_tu s t) (h12 : s.1 66 12 ≤ t.1 66 12) (h8 : t.1 66 8 = 0 → s.1 66 8 = 0) : rf_itm t k lo hi := by
  unfold rf_itm
  rw [he 85 (by decide) (by decide), he 90 (by decide) (by decide), he 91 (by decide) (by decide)]
  rcases h with ⟨a, b, c⟩ | ⟨a, mid, b, c, d⟩
  · exact Or.inl ⟨a, b, rf_ty1_up c hu (he 87 (by decide) (by decide)) (he 89 (by decide) (by decide))⟩
  · exact Or.inr ⟨a, mid, b, rf_tr_nt c hn hu (by omega) h12 h8, rf_tr_nt d hn hu (by omega) h12 h8⟩
theorem rf_its_up {s t : sx_S} {n hi m : Int} (h : rf_its s n hi) (he : rf_ie n s t) (hn : rf_nt m s t) (hm : hi ≤ m) (hu : rf_tu s t) (h12 : s.1 66 12 ≤ t.1 66 12) (h8 : t.1 66 8 = 0 → s.1 66 8 = 0) : rf_its t n hi := by
  obtain ⟨L, a, b, c⟩ := h
  refine ⟨L, a, b, fun k hk => ⟨rf_itm_up (c k hk).1 (fun p p1 p2 => he p k p1 p2 hk) hn ?_ hu h12 h8, (c k hk).2⟩⟩
  have := (c k hk).2
  omega
theorem rf_its_add {s : sx_S} {n lo hi : Int} (h : rf_its s n lo) (h0 : 0 ≤ n) (hl : lo ≤ hi) (hi' : rf_itm s n.toNat lo hi) : rf_its s (n + 1) hi := by
  obtain ⟨L, a, b, c⟩ := h
  refine ⟨fun j => if j ≤ n.toNat then L j else hi, ?_, ?_, fun k hk => ?_⟩
  · dsimp only
    rw [if_pos (Nat.zero_le _)]
    exact a
  · dsimp only
    rw [if_neg (by omega)]
  · dsimp only
    rw [if_pos (by omega)]
    by_cases e : (k : Int) < n
    · rw [if_pos (by omega)]
      exact ⟨(c k e).1, Int.le_trans (c k e).2 hl⟩
    · have e1 : k = n.toNat := by omega
      rw [if_neg (by omega), e1, b]
      exact ⟨hi', Int.le_refl _⟩
theorem rf_its_0 (s : sx_S) {n hi : Int} (h : n = 0) (hh : hi = 0) : rf_its s n hi := by
  subst h hh
  exact ⟨fun _ => 0, Int.le_refl _, rfl, fun k hk => by omega⟩
def rf_P0 (s : sx_S) : Prop := rf_its s (s.1 66 24) (s.1 66 12)
def rf_P1 (s : sx_S) : Prop := ∃ lo, rf_its s (s.1 66 24) lo ∧ lo ≤ s.1 66 12 ∧ rf_tr lo (s.1 66 12) 22 s (s.2.1 90 (s.1 66 24).toNat) ∧ 0 ≤ s.2.1 90 (s.1 66 24).toNat
def rf_P2 (s : sx_S) : Prop := ∃ lo, rf_its s (s.1 66 24) lo ∧ lo ≤ s.1 66 12 ∧ rf_itm s (s.1 66 24).toNat lo (s.1 66 12)
theorem rf_P0_up {s t : sx_S} (h : rf_P0 s) (he : rf_ie (s.1 66 24) s t) (hn : rf_nt (s.1 66 12) s t) (hu : rf_tu s t) (e24 : t.1 66 24 = s.1 66 24) (e12 : t.1 66 12 = s.1 66 12) (h8 : t.1 66 8 = 0 → s.1 66 8 = 0) : rf_P0 t := by
  unfold rf_P0
  rw [e24, e12]
  exact rf_its_up h he hn (Int.le_refl _) hu (by omega) h8
theorem rf_P1_mk {s t : sx_S} {z : Int} (h : rf_P0 s) (he : rf_ie (s.1 66 24) s t) (hn : rf_nt (s.1 66 12) s t) (hu : rf_tu s t) (e24 : t.1 66 24 = s.1 66 24) (e12 : s.1 66 12 ≤ t.1 66 12) (h8 : t.1 66 8 = 0 → s.1 66 8 = 0) (hz : t.2.1 90 (t.1 66 24).toNat = z) (h0 : 0 ≤ z) (ht : rf_tr (s.1 66 12) (t.1 66 12) 22 t z) : rf_P1 t := by
  refine ⟨s.1 66 12, ?_, e12, ?_, ?_⟩
  · rw [e24]
    exact rf_its_up h he hn (Int.le_refl _) hu e12 h8
  · rw [hz]
    exact ht
  · rw [hz]
    exact h0
theorem rf_P1_up {s t : sx_S} (h : rf_P1 s) (he : rf_ie (s.1 66 24) s t) (hn : rf_nt (s.1 66 12) s t) (hu : rf_tu s t) (e24 : t.1 66 24 = s.1 66 24) (e12 : t.1 66 12 = s.1 66 12) (h8 : t.1 66 8 = 0 → s.1 66 8 = 0) (h90 : t.2.1 90 (s.1 66 24).toNat = s.2.1 90 (s.1 66 24).toNat) : rf_P1 t := by
  obtain ⟨lo, a, b, c, d⟩ := h
  unfold rf_P1
  rw [e24, e12, h90]
  exact ⟨lo, rf_its_up a he hn b hu (by omega) h8, b, rf_tr_nt c hn hu (Int.le_refl _) (by omega) h8, d⟩
theorem rf_P2_c {s t : sx_S} (h : rf_P0 s) (he : rf_ie (s.1 66 24) s t) (hn : rf_nt (s.1 66 12) s t) (hu : rf_tu s t) (e24 : t.1 66 24 = s.1 66 24) (e12 : t.1 66 12 = s.1 66 12) (h8 : t.1 66 8 = 0 → s.1 66 8 = 0) (hk : rf_k23 t) (hd : rf_ty1 t (t.1 66 24).toNat) : rf_P2 t := by
  refine ⟨s.1 66 12, ?_, by omega, Or.inl ⟨hk trivial, by omega, hd⟩⟩
  rw [e24]
  exact rf_its_up h he hn (Int.le_refl _) hu (by omega) h8
theorem rf_P2_e {s t : sx_S} {z : Int} (h : rf_P1 s) (he : rf_ie (s.1 66 24) s t) (hn : rf_nt (s.1 66 12) s t) (hu : rf_tu s t) (e24 : t.1 66 24 = s.1 66 24) (e12 : s.1 66 12 ≤ t.1 66 12) (h8 : t.1 66 8 = 0 → s.1 66 8 = 0) (h90 : t.2.1 90 (s.1 66 24).toNat = s.2.1 90 (s.1 66 24).toNat) (hk : rf_k4 t) (hz : t.2.1 91 (t.1 66 24).toNat = z) (h0 : 0 ≤ z) (ht : rf_tr (s.1 66 12) (t.1 66 12) 22 t z) : rf_P2 t := by
  obtain ⟨lo, a, b, c, d⟩ := h
  refine ⟨lo, ?_, by omega, Or.inr ⟨hk trivial, s.1 66 12, ⟨b, e12, ?_, ?_⟩, ?_, ?_⟩⟩
  · rw [e24]
    exact rf_its_up a he hn b hu e12 h8
  · rw [e24, h90]
    exact d
  · rw [hz]
    exact h0
  · rw [e24, h90]
    exact rf_tr_nt c hn hu (Int.le_refl _) e12 h8
  · rw [hz]
    exact ht
theorem rf_P2_up {s t : sx_S} (h : rf_P2 s) (he : rf_ie (s.1 66 24 + 1) s t) (hn : rf_nt (s.1 66 12) s t) (hu : rf_tu s t) (e24 : t.1 66 24 = s.1 66 24 + 1) (h0 : 0 ≤ s.1 66 24) (e12 : t.1 66 12 = s.1 66 12) (h8 : t.1 66 8 = 0 → s.1 66 8 = 0) : rf_P0 t := by
  obtain ⟨lo, a, b, c⟩ := h
  unfold rf_P0
  rw [e24, e12]
  refine rf_its_add (lo := lo) (rf_its_up a (fun p k p1 p2 hk => he p k p1 p2 (by omega)) hn b hu (by omega) h8) h0 b (rf_itm_up c (fun p p1 p2 => he p _ p1 p2 (by omega)) hn (Int.le_refl _) hu (by omega) h8)
