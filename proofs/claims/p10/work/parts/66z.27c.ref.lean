/-- numbers and orders of the open unknowns -/
def rf_OD (s : sx_S) : Prop := (0 ≤ s.1 66 83 ∧ 0 ≤ s.1 66 79 ∧ s.1 66 83 + s.1 66 79 ≤ ((rf_sum (fun x => if s.2.1 118 x = -1 then 0 else 5) (s.1 66 61).toNat : Nat) : Int)) ∧ ∀ m : Nat, (m : Int) < s.1 66 61 → s.2.1 118 m ≠ -1 → (0 ≤ s.2.1 120 m ∧ s.2.1 120 m + s.2.1 108 m ≤ s.1 66 83) ∧ ∀ q : Nat, (q : Int) < s.2.1 108 m → 0 ≤ s.2.1 121 (s.2.1 120 m + (q : Int)).toNat ∧ s.2.1 121 (s.2.1 120 m + (q : Int)).toNat < s.2.1 108 m
theorem rf_sum_bd {f : Nat → Nat} {c : Nat} (h : ∀ j, f j ≤ c) : ∀ n : Nat, rf_sum f n ≤ n * c
  | 0 => by
    rw [Nat.zero_mul]
    exact Nat.le_refl _
  | n + 1 => by
    have h1 := rf_sum_bd h n
    have h2 := h n
    rw [rf_sum_s, Nat.add_mul, Nat.one_mul]
    omega
theorem rf_OD_bd {s : sx_S} (h : rf_OD s) (h61 : s.1 66 61 ≤ 2900) : (0 ≤ s.1 66 83 ∧ s.1 66 83 ≤ 14500) ∧ (0 ≤ s.1 66 79 ∧ s.1 66 79 ≤ 14500) := by
  have h0 : ∀ j : Nat, (fun x => if s.2.1 118 x = -1 then 0 else 5) j ≤ 5 := fun j => by
    show (if s.2.1 118 j = -1 then 0 else 5) ≤ 5
    by_cases c : s.2.1 118 j = -1
    · rw [if_pos c]
      omega
    · rw [if_neg c]
      omega
  have h1 := rf_sum_bd (f := fun x => if s.2.1 118 x = -1 then 0 else 5) (c := 5) h0 (s.1 66 61).toNat
  have h2 := h.1
  omega
theorem rf_OD_same {s t : sx_S} (h : rf_OD s) (e61 : t.1 66 61 = s.1 66 61) (e83 : t.1 66 83 = s.1 66 83) (e79 : t.1 66 79 = s.1 66 79) (ea : ∀ p, p = 108 ∨ p = 118 ∨ p = 120 ∨ p = 121 → t.2.1 p = s.2.1 p) : rf_OD t := by
  unfold rf_OD
  rw [e61, e83, e79, ea 108 (by decide), ea 118 (by decide), ea 120 (by decide), ea 121 (by decide)]
  exact h
/-- what writing leaves as it was -/
def rf_WF (s t : sx_S) : Prop := (cx_F [(66, 66), (100, 103), (105, 107), (115, 122)] s t ∧ rf_f [50, 58, 71, 79, 83, 86] s t ∧ t.1 66 50 = s.1 66 50) ∧ (rf_ag 100 103 (s.1 66 50) s t ∧ rf_ag 105 105 (s.1 66 56) s t ∧ rf_ag 106 107 (s.1 66 58) s t ∧ rf_ag 115 117 (s.1 66 71) s t) ∧ s.1 66 58 ≤ t.1 66 58 ∧ s.1 66 71 ≤ t.1 66 71 ∧ ∀ j : Nat, s.2.1 118 j ≠ -1 → t.2.1 118 j ≠ -1
theorem rf_WF_refl (s : sx_S) : rf_WF s s := ⟨⟨cx_F_refl _ _, rf_f_refl _ _, rfl⟩, ⟨rf_ag_refl _ _ _ _, rf_ag_refl _ _ _ _, rf_ag_refl _ _ _ _, rf_ag_refl _ _ _ _⟩, Int.le_refl _, Int.le_refl _, fun _ h => h⟩
theorem rf_WF_trans {s t u : sx_S} (h2 : rf_WF t u) (h1 : rf_WF s t) : rf_WF s u := by
  obtain ⟨⟨a1, a2, a3⟩, ⟨a4, a5, a6, a7⟩, a8, a9, a10⟩ := h1
  obtain ⟨⟨b1, b2, b3⟩, ⟨b4, b5, b6, b7⟩, b8, b9, b10⟩ := h2
  have e56 := a2 56 rfl
  exact ⟨⟨cx_F_step b1 rfl a1, rf_f_step b2 rfl a2, b3.trans a3⟩, ⟨rf_ag_trans b4 (by omega) a4, rf_ag_trans b5 (by omega) a5, rf_ag_trans b6 a8 a6, rf_ag_trans b7 a9 a7⟩, by omega, by omega, fun j hj => b10 j (a10 j hj)⟩
theorem rf_WF_EX {s t : sx_S} (h : rf_WF s t) : rf_EX (s.1 66 71) (s.1 66 58) s t ∧ rf_NC s t := by
  obtain ⟨⟨a1, a2, a3⟩, ⟨a4, a5, a6, a7⟩, a8, a9, _⟩ := h
  have e56 := a2 56 rfl
  have e61 := a2 61 rfl
  have e64 := a2 64 rfl
  have e70 := a2 70 rfl
  refine ⟨⟨⟨⟨a2 9 rfl, (a1.same 72 rfl).2, (a1.same 73 rfl).2, (a1.same 96 rfl).2, a2 42 rfl⟩, by omega, by omega, by omega, by omega, by omega⟩, fun j => ⟨fun hj => ⟨a4 100 j (by omega) (by omega) hj, a4 101 j (by omega) (by omega) hj, a4 102 j (by omega) (by omega) hj, a4 103 j (by omega) (by omega) hj, by rw [(a1.same 104 rfl).2]⟩, fun hj => a5 105 j (by omega) (by omega) hj, fun hj => a6 106 j (by omega) (by omega) hj, fun _ => ⟨by rw [(a1.same 108 rfl).2], by rw [(a1.same 109 rfl).2], fun _ => ⟨by rw [(a1.same 111 rfl).2], by rw [(a1.same 112 rfl).2], by rw [(a1.same 113 rfl).2], by rw [(a1.same 114 rfl).2]⟩⟩, fun _ => by rw [(a1.same 110 rfl).2], fun hj => ⟨a7 115 j (by omega) (by omega) hj, a7 116 j (by omega) (by omega) hj, a7 117 j (by omega) (by omega) hj⟩⟩⟩, e61, fun j _ => by rw [(a1.same 111 rfl).2]⟩
/-- small steps of writing -/
theorem rf_WF_put {s t : sx_S} (hF : cx_F [(66, 66), (122, 122)] s t) (hf : rf_f [86] s t) : rf_WF s t ∧ (rf_OD s → rf_OD t) ∧ t.1 66 71 = s.1 66 71 ∧ t.1 66 58 = s.1 66 58 ∧ t.2.1 107 = s.2.1 107 := by
  have e50 := hf 50 rfl
  have e58 := hf 58 rfl
  have e71 := hf 71 rfl
  refine ⟨⟨⟨cx_F_step hF rfl (cx_F_refl _ _), rf_f_step hf rfl (rf_f_refl _ _), e50⟩, ⟨rf_ag_F hF rfl (rf_ag_refl _ _ _ _), rf_ag_F hF rfl (rf_ag_refl _ _ _ _), rf_ag_F hF rfl (rf_ag_refl _ _ _ _), rf_ag_F hF rfl (rf_ag_refl _ _ _ _)⟩, by omega, by omega, fun j hj => by rw [(hF.same 118 rfl).2]; exact hj⟩, fun h => rf_OD_same h (hf 61 rfl) (hf 83 rfl) (hf 79 rfl) (fun p hp => ?_), e71, e58, (hF.same 107 rfl).2⟩
  rcases hp with rfl | rfl | rfl | rfl <;> exact (hF.same _ rfl).2
/-- the variables that stand free are called by such of distinct depths, below this one -/
def rf_DI (s : sx_S) (y : rf_Y) (F : Int → Prop) (dp : Int) : Prop := ∀ v, F v → (0 ≤ s.2.1 107 (rf_look y v).toNat ∧ s.2.1 107 (rf_look y v).toNat < dp) ∧ ∀ w, F w → s.2.1 107 (rf_look y v).toNat = s.2.1 107 (rf_look y w).toNat → v = w
theorem rf_DI_le {s : sx_S} {y : rf_Y} {F F' : Int → Prop} {dp : Int} (h : ∀ v, F' v → F v) (k : rf_DI s y F dp) : rf_DI s y F' dp := fun v hv => ⟨(k v (h v hv)).1, fun w hw => (k v (h v hv)).2 w (h w hw)⟩
