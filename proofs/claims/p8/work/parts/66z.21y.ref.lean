/-! ===== the reference: what checking keeps ===== -/
def rf_mm (s : sx_S) : rf_N → rf_N
  | .leaf => .leaf
  | .inner j _ _ f x => .inner j (rf_rk s j, s.2.1 82 j) () (rf_mm s f) (rf_mm s x)
theorem rf_mm_ym {s : sx_S} : ∀ {n : rf_N} {i : Int}, rf_rt s n i → rf_ym s (rf_mm s n) i
  | .leaf, _, h => h
  | .inner j k _ f x, i, ⟨h1, _, h3, h4⟩ => ⟨h1, ⟨rfl, rfl⟩, rf_mm_ym h3, rf_mm_ym h4⟩
theorem rf_mm_idx {s : sx_S} : ∀ n : rf_N, rf_idx (rf_mm s n) = rf_idx n
  | .leaf => rfl
  | .inner j k _ f x => by
    show j :: (rf_idx (rf_mm s f) ++ rf_idx (rf_mm s x)) = _
    rw [rf_mm_idx f, rf_mm_idx x]
    rfl
theorem rf_mm_eq {s t : sx_S} : ∀ {n : rf_N}, (∀ j ∈ rf_idx n, t.2.1 74 j = s.2.1 74 j ∧ t.2.1 82 j = s.2.1 82 j ∧ t.2.1 83 j = s.2.1 83 j) → rf_mm t n = rf_mm s n
  | .leaf, _ => rfl
  | .inner j k _ f x, h => by
    obtain ⟨h1, h2, h3⟩ := h j List.mem_cons_self
    have e : rf_rk t j = rf_rk s j := by
      unfold rf_rk
      rw [h1, h3]
    show (.inner j (rf_rk t j, t.2.1 82 j) () (rf_mm t f) (rf_mm t x) : rf_N) = _
    rw [e, h2, rf_mm_eq (n := f) (fun q hq => h q (List.mem_cons_of_mem _ (List.mem_append_left _ hq))), rf_mm_eq (n := x) (fun q hq => h q (List.mem_cons_of_mem _ (List.mem_append_right _ hq)))]
    rfl
theorem rf_mm_snoc {s : sx_S} (b : rf_N) : ∀ a : rf_N, rf_mm s (rf_snoc a b) = rf_snoc (rf_mm s a) (rf_mm s b)
  | .leaf => rfl
  | .inner j k _ f x => by
    show (.inner j _ () (rf_mm s f) (rf_mm s (rf_snoc x b)) : rf_N) = _
    rw [rf_mm_snoc b x]
    rfl
theorem rf_mm_ht {s : sx_S} : ∀ {n : rf_N} {i : Int}, rf_rt s n i → rf_ht (rf_mm s n) = rf_ht n
  | .leaf, _, _ => rfl
  | .inner j k _ f x, i, ⟨_, ⟨h2, _⟩, h3, h4⟩ => by
    show ((if rf_rk s j = 0 then 1 + (rf_ht (rf_mm s f)).1 else 1 + (rf_ht (rf_mm s f)).2, max (if rf_rk s j = 0 then 1 + (rf_ht (rf_mm s f)).1 else 1 + (rf_ht (rf_mm s f)).2) (rf_ht (rf_mm s x)).2) : Nat × Nat) = (if k.1 = 0 then 1 + (rf_ht f).1 else 1 + (rf_ht f).2, max (if k.1 = 0 then 1 + (rf_ht f).1 else 1 + (rf_ht f).2) (rf_ht x).2)
    rw [rf_mm_ht h3, rf_mm_ht h4]
    have e : (rf_rk s j = 0) = (k.1 = 0) := by
      unfold rf_rk
      rw [← h2]
      split
      · rename_i q
        simp [q]
      · rename_i q
        split
        · simp [q]
        · rename_i q2
          simp [q, q2]
    simp only [e]
def rf_al1 : rf_N → List Nat
  | .leaf => []
  | .inner j _ _ f _ => j :: rf_idx f
/-- what a check builds -/
def rf_cs : rf_N → Nat × Nat
  | .leaf => (0, 0)
  | .inner _ k _ f x => (1 + (if k.1 = 0 then (rf_cs f).1 else (rf_cs f).2 + (if k.1 = 3 then 4 * (rf_idx f).length else 0)), 1 + (if k.1 = 0 then (rf_cs f).1 else (rf_cs f).2 + (if k.1 = 3 then 4 * (rf_idx f).length else 0)) + (rf_cs x).2)
theorem rf_cs_snoc (b : rf_N) : ∀ a : rf_N, (rf_cs (rf_snoc a b)).2 = (rf_cs a).2 + (rf_cs b).2
  | .leaf => (Nat.zero_add _).symm
  | .inner j k _ f x => by
    show 1 + _ + (rf_cs (rf_snoc x b)).2 = 1 + _ + (rf_cs x).2 + _
    rw [rf_cs_snoc b x]
    omega
theorem rf_cs_lf : ∀ {n : rf_N}, (∀ us v, (rf_lf2 n).1 us v → (rf_cs n).1 ≤ rf_s1 n) ∧ (∀ us, (rf_lf2 n).2 us → (rf_cs n).2 ≤ (rf_idx n).length)
  | .leaf => ⟨fun _ _ h => h.elim, fun _ _ => Nat.le_refl _⟩
  | .inner j k u f x => by
    have ihf := rf_cs_lf (n := f)
    have ihx := rf_cs_lf (n := x)
    have hs := rf_s1_le (f := f)
    have h1 : ∀ us v, (rf_lf2 (.inner j k u f x)).1 us v → (rf_cs (.inner j k u f x)).1 ≤ 1 + (rf_idx f).length := by
      rintro us v (⟨q1, q2⟩ | ⟨q1, _, _, q2⟩)
      · have := ihf.1 _ _ q2
        show 1 + (if k.1 = 0 then (rf_cs f).1 else _) ≤ _
        rw [if_pos q1]
        omega
      · have := ihf.2 _ q2
        show 1 + (if k.1 = 0 then (rf_cs f).1 else (rf_cs f).2 + (if k.1 = 3 then 4 * (rf_idx f).length else 0)) ≤ _
        rw [if_neg (by omega), if_neg (by omega)]
        omega
    refine ⟨h1, ?_⟩
    rintro us ⟨w, us', _, q2, q3⟩
    have a1 := h1 _ _ q2
    have a2 := ihx.2 _ q3
    have a3 : (rf_idx (.inner j k u f x)).length = 1 + (rf_idx f).length + (rf_idx x).length := rf_s1_idx
    rw [a3]
    show (rf_cs (.inner j k u f x)).1 + (rf_cs x).2 ≤ _
    omega
theorem rf_cs_gd : ∀ {n : rf_N}, ((rf_gd n).1 → (rf_cs n).1 ≤ 5 * rf_s1 n) ∧ ((rf_gd n).2 → (rf_cs n).2 ≤ 5 * (rf_idx n).length)
  | .leaf => ⟨fun _ => Nat.zero_le _, fun _ => Nat.zero_le _⟩
  | .inner j k u f x => by
    have ihf := rf_cs_gd (n := f)
    have ihx := rf_cs_gd (n := x)
    have hs := rf_s1_le (f := f)
    have h1 : (rf_gd (.inner j k u f x)).1 → (rf_cs (.inner j k u f x)).1 ≤ 5 * (1 + (rf_idx f).length) := by
      rintro (⟨q1, q2⟩ | ⟨q1, q2, q3⟩)
      · have := ihf.1 q2
        show 1 + (if k.1 = 0 then (rf_cs f).1 else _) ≤ _
        rw [if_pos q1]
        omega
      · have := ihf.2 q2
        show 1 + (if k.1 = 0 then (rf_cs f).1 else (rf_cs f).2 + (if k.1 = 3 then 4 * (rf_idx f).length else 0)) ≤ _
        rw [if_neg q1]
        split
        · rename_i q
          obtain ⟨vs, e1, _⟩ := q3 q
          have := (rf_cs_lf (n := f)).2 _ e1
          omega
        · omega
    refine ⟨h1, ?_⟩
    rintro ⟨q1, q2⟩
    have a1 := h1 q1
    have a2 := ihx.2 q2
    have a3 : (rf_idx (.inner j k u f x)).length = 1 + (rf_idx f).length + (rf_idx x).length := rf_s1_idx
    rw [a3]
    show (rf_cs (.inner j k u f x)).1 + (rf_cs x).2 ≤ _
    omega
/-- the variables around -/
def rf_ga (s : sx_S) : Nat → List Int
  | 0 => []
  | n + 1 => s.2.1 94 n :: rf_ga s n
theorem rf_ga_eq {s t : sx_S} : ∀ {n : Nat}, (∀ q, q < n → t.2.1 94 q = s.2.1 94 q) → rf_ga t n = rf_ga s n
  | 0, _ => rfl
  | n + 1, h => by
    unfold rf_ga
    rw [rf_ga_eq (n := n) (fun q hq => h q (by omega)), h n (by omega)]
theorem rf_ga_mem {s : sx_S} {i : Nat} : ∀ {n : Nat}, i < n → s.2.1 94 i ∈ rf_ga s n
  | 0, h => absurd h (Nat.not_lt_zero _)
  | n + 1, h => by
    by_cases e : i = n
    · rw [e]
      exact List.mem_cons_self
    · exact List.mem_cons_of_mem _ (rf_ga_mem (by omega))
def rf_Rd (t : sx_S) (n : rf_N) (x : rf_T) (Γ : List Int) : Prop := (rf_gt (rf_RH t) (rf_RP t) (rf_mm t n)).1 x ∧ (rf_gd (rf_mm t n)).1 ∧ (rf_sc rf_G1 (rf_mm t n)).1 Γ
theorem rf_mm_C {s t : sx_S} {S : List Nat} (h : rf_FC s t S) {n : rf_N} (hd : ∀ j ∈ rf_idx n, j ∉ S) : rf_mm t n = rf_mm s n := rf_mm_eq (fun j hj => ⟨by rw [(h.same 74 rfl).2], h.2.2.2.2.1 82 j (by omega) (by omega) (hd j hj), h.2.2.2.2.1 83 j (by omega) (by omega) (hd j hj)⟩)
/-- the same, the number of variables around aside -/
def rf_F0 (m : Int) (s t : sx_S) (S : List Nat) : Prop := (∀ p, cx_out [(66, 66), (72, 73), (82, 84), (93, 94), (100, 106)] p → t.1 p = s.1 p ∧ t.2.1 p = s.2.1 p) ∧ rf_f [9, 34, 40, 41, 50, 56, 58] s t ∧ rf_xu s t ∧ rf_ag 93 94 m s t ∧ (∀ p j : Nat, 82 ≤ p → p ≤ 84 → j ∉ S → t.2.1 p j = s.2.1 p j) ∧ rf_ag 100 103 (s.1 66 50) s t ∧ (∀ o, o < s.2.2.2 → t.2.2.1 o = s.2.2.1 o) ∧ s.2.2.2 ≤ t.2.2.2
theorem rf_F0_trans {m : Int} {s t u : sx_S} {S S' T : List Nat} (h2 : rf_F0 m t u S') (h1 : rf_F0 m s t S) (hS : ∀ j ∈ S, j ∈ T) (hS' : ∀ j ∈ S', j ∈ T) : rf_F0 m s u T := by
  obtain ⟨a1, a2, a3, a4, a5, a6, a7, a8⟩ := h1
  obtain ⟨b1, b2, b3, b4, b5, b6, b7, b8⟩ := h2
  refine ⟨fun p hp => ⟨(b1 p hp).1.trans (a1 p hp).1, (b1 p hp).2.trans (a1 p hp).2⟩, rf_f_step b2 rfl a2, rf_xu_trans b3 a3, rf_ag_trans b4 (Int.le_refl _) a4, fun p j q1 q2 q3 => (b5 p j q1 q2 (fun z => q3 (hS' j z))).trans (a5 p j q1 q2 (fun z => q3 (hS j z))), rf_ag_trans b6 (a3.2 0).1.2.2.1 a6, fun o ho => (b7 o (by omega)).trans (a7 o ho), Nat.le_trans a8 b8⟩
theorem rf_F0_C {m : Int} {s t : sx_S} {S : List Nat} (h : rf_FC s t S) (hm : m ≤ s.1 66 34) : rf_F0 m s t S := by
  obtain ⟨a1, a2, a3, a4, a5, a6, a7, a8⟩ := h
  exact ⟨a1, rf_f_step a2 rfl (rf_f_refl _ _), a3, rf_ag_trans a4 hm (rf_ag_refl _ _ _ _), a5, a6, a7, a8⟩
theorem rf_C_F0 {s t : sx_S} {S : List Nat} (h : rf_F0 (s.1 66 34) s t S) (h34 : t.1 66 34 = s.1 66 34) : rf_FC s t S := by
  obtain ⟨a1, a2, a3, a4, a5, a6, a7, a8⟩ := h
  refine ⟨a1, fun k hk => ?_, a3, a4, a5, a6, a7, a8⟩
  by_cases e : k = 34
  · rw [e]
    exact h34
  · refine a2 k ?_
    simp at hk ⊢
    omega
theorem rf_F0.same {m : Int} {s t : sx_S} {S : List Nat} (h : rf_F0 m s t S) (p : Nat) (hp : cx_outb [(66, 66), (72, 73), (82, 84), (93, 94), (100, 106)] p = true) : t.1 p = s.1 p ∧ t.2.1 p = s.2.1 p := h.1 p (cx_outb_ok hp)
theorem rf_mm_F0 {m : Int} {s t : sx_S} {S : List Nat} (h : rf_F0 m s t S) {n : rf_N} (hd : ∀ j ∈ rf_idx n, j ∉ S) : rf_mm t n = rf_mm s n := rf_mm_eq (fun j hj => ⟨by rw [(h.same 74 rfl).2], h.2.2.2.2.1 82 j (by omega) (by omega) (hd j hj), h.2.2.2.2.1 83 j (by omega) (by omega) (hd j hj)⟩)
theorem rf_Rd_F0 {m : Int} {s t : sx_S} {S : List Nat} (h : rf_F0 m s t S) {n : rf_N} (hd : ∀ j ∈ rf_idx n, j ∉ S) {x : rf_T} {Γ : List Int} (g : rf_Rd s n x Γ) : rf_Rd t n x Γ := by
  obtain ⟨g1, g2, g3⟩ := g
  unfold rf_Rd
  rw [rf_mm_F0 h hd]
  refine ⟨(rf_Rt_up h.2.2.1 (fun j hj => h.2.2.2.2.1 84 j (by omega) (by omega) (hd j ?_))).1 _ g1, g2, g3⟩
  rw [rf_mm_idx] at hj
  exact hj
theorem rf_rt_F0 {m : Int} {s t : sx_S} {S : List Nat} (h : rf_F0 m s t S) {n : rf_N} {i : Int} (g : rf_rt s n i) : rf_rt t n i := by
  unfold rf_rt at g ⊢
  rw [(h.same 74 rfl).2, (h.same 75 rfl).2, (h.same 80 rfl).2, (h.same 81 rfl).2, h.2.1 12 rfl]
  exact g
theorem rf_rw_F0 {m : Int} {s t : sx_S} {S : List Nat} (h : rf_F0 m s t S) : ∀ {n : rf_N}, ((rf_rw s n).1 → (rf_rw t n).1) ∧ ((rf_rw s n).2 → (rf_rw t n).2)
  | .leaf => ⟨id, id⟩
  | .inner j k u f x => by
    have ihf := rf_rw_F0 h (n := f)
    have ihx := rf_rw_F0 h (n := x)
    have hD : rf_D s j → rf_D t j := by
      rintro ⟨y, h1, h2⟩
      refine ⟨y, ?_, ?_⟩
      · rw [(h.same 76 rfl).2]
        exact rf_is_up h1 h.2.2.1.1
      · rw [(h.same 78 rfl).2]
        exact h2
    have h1 : (rf_rw s (.inner j k u f x)).1 → (rf_rw t (.inner j k u f x)).1 := by
      rintro (⟨q1, q2, q3⟩ | ⟨q1, q2⟩)
      · exact Or.inl ⟨q1, hD q2, ihf.1 q3⟩
      · exact Or.inr ⟨q1, ihf.2 q2⟩
    exact ⟨h1, fun q => ⟨h1 q.1, ihx.2 q.2⟩⟩
theorem rf_CK_F0 {m : Int} {s t : sx_S} {S : List Nat} (h : rf_F0 m s t S) (hm : t.1 66 34 ≤ m) (h34 : t.1 66 34 ≤ s.1 66 34) (g : rf_CK s) : rf_CK t := by
  obtain ⟨_, _, a3, a4, _⟩ := h
  have up : ∀ z, rf_t5 s z → rf_t5 t z := fun z ⟨y, h1, h2⟩ => ⟨y, rf_is_up h1 a3.1, h2⟩
  intro k
  obtain ⟨g1, g2, g3⟩ := g k
  obtain ⟨⟨b1, b2, b3, b4, b5⟩, b6, b7, b8, b9, b10⟩ := a3.2 k
  refine ⟨fun q => ?_, fun q => ?_, fun q => ?_⟩
  · rw [b9]
    exact up _ (g1 (by omega))
  · rw [b10]
    exact up _ (g2 (by omega))
  · obtain ⟨c1, c2⟩ := g3 (by omega)
    rw [a4 94 k (by omega) (by omega) (by omega)]
    refine ⟨by omega, ?_⟩
    rw [(a3.2 (s.2.1 94 k).toNat).2.1 (by omega)]
    exact up _ c2
theorem rf_FC_mean {s t : sx_S} {r : Int} (h0 : 0 ≤ r) (hF : cx_F [(66, 66), (82, 83)] s t) (hf : rf_f [40, 41] s t) (hx : rf_ax r s t) : rf_FC s t [r.toNat] := by
  have e : t.2.2 = s.2.2 := (hF 0).2
  have a : ∀ p, cx_outb [(66, 66), (82, 83)] p = true → t.2.1 p = s.2.1 p := fun p hp => (hF.same p hp).2
  refine ⟨fun p hp => (hF p).1 (cx_le_ok (W := [(66, 66), (72, 73), (82, 84), (93, 94), (100, 106)]) rfl hp), rf_f_step hf rfl (rf_f_refl _ _), ⟨fun j => ?_, fun j => ?_⟩, rf_ag_F hF rfl (rf_ag_refl _ _ _ _), fun p j h1 h2 h3 => hx p j h1 h2 (fun z => h3 ?_), rf_ag_F hF rfl (rf_ag_refl _ _ _ _), fun _ _ => by rw [e], by rw [e]; exact Nat.le_refl _⟩
  · rw [hf 9 rfl, a 72 rfl, a 73 rfl]
    exact ⟨Int.le_refl _, fun _ => ⟨rfl, rfl⟩⟩
  · rw [hf 58 rfl, hf 56 rfl, hf 50 rfl, hf 42 rfl, hf 45 rfl, a 106 rfl, a 105 rfl, a 104 rfl, a 96 rfl, a 123 rfl]
    exact ⟨⟨Int.le_refl _, Int.le_refl _, Int.le_refl _, rfl, rfl⟩, fun _ => rfl, fun _ => rfl, fun _ => rfl, rfl, rfl⟩
  · rw [← z, Int.toNat_natCast]
    exact List.mem_cons_self
theorem rf_FC_84 {s : sx_S} {r v : Int} : rf_FC s (s.1, sx_ua s.2.1 84 r.toNat v, s.2.2) [r.toNat] := by
  have e : ∀ q, q ≠ 84 → sx_ua s.2.1 84 r.toNat v q = s.2.1 q := fun q hq => sx_ua_ne hq
  refine ⟨fun p hp => ⟨rfl, e p ?_⟩, rf_f_refl _ _, rf_xu_arr rfl (fun q hq => e q (by omega)), fun p j h1 h2 _ => ?_, fun p j h1 h2 h3 => ?_, fun p j h1 h2 _ => ?_, fun _ _ => rfl, Nat.le_refl _⟩
  · have := hp (82, 84) (by simp)
    dsimp only at this
    omega
  · dsimp only
    rw [e p (by omega)]
  · dsimp only
    by_cases q : p = 84
    · rw [q, sx_ua_same]
      dsimp only
      rw [if_neg (fun z => h3 (by rw [z]; exact List.mem_cons_self))]
    · rw [e p q]
  · dsimp only
    rw [e p (by omega)]
theorem rf_F0_34 {m : Int} {s : sx_S} {w : Int} : rf_F0 m s (sx_uf s.1 66 34 w, s.2) [] := by
  have e : ∀ q, q ≠ 34 → sx_uf s.1 66 34 w 66 q = s.1 66 q := fun q hq => by
    rw [sx_uf_if]
    exact if_neg (fun c => hq c.2)
  refine ⟨fun p hp => ⟨?_, rfl⟩, rf_f_uf rfl (F := s.1) (B := s.2) (rf_f_refl _ _), ⟨fun j => ?_, fun j => ?_⟩, rf_ag_refl _ _ _ _, fun _ _ _ _ _ => rfl, rf_ag_refl _ _ _ _, fun _ _ => rfl, Nat.le_refl _⟩
  · have := hp (66, 66) (by simp)
    dsimp only at this
    show sx_uf s.1 66 34 w p = _
    rw [sx_fv_ne (by omega)]
  · dsimp only
    rw [e 9 (by decide)]
    exact ⟨Int.le_refl _, fun _ => ⟨rfl, rfl⟩⟩
  · dsimp only
    rw [e 58 (by decide), e 56 (by decide), e 50 (by decide), e 42 (by decide), e 45 (by decide)]
    exact ⟨⟨Int.le_refl _, Int.le_refl _, Int.le_refl _, rfl, rfl⟩, fun _ => rfl, fun _ => rfl, fun _ => rfl, rfl, rfl⟩
theorem rf_F0_new {m : Int} {s t : sx_S} (hF : cx_F [(66, 66), (106, 106)] s t) (hf : rf_f [58] s t) (h58 : t.1 66 58 = s.1 66 58 + 1) (ha : rf_ag 106 106 (s.1 66 58) s t) : rf_F0 m s t [] := by
  have e : t.2.2 = s.2.2 := (hF 0).2
  have a : ∀ p, cx_outb [(66, 66), (106, 106)] p = true → t.2.1 p = s.2.1 p := fun p hp => (hF.same p hp).2
  refine ⟨fun p hp => (hF p).1 (cx_le_ok (W := [(66, 66), (72, 73), (82, 84), (93, 94), (100, 106)]) rfl hp), rf_f_step hf rfl (rf_f_refl _ _), rf_xu_new hF hf h58 ha, rf_ag_F hF rfl (rf_ag_refl _ _ _ _), fun p j h1 h2 _ => ?_, rf_ag_F hF rfl (rf_ag_refl _ _ _ _), fun _ _ => by rw [e], by rw [e]; exact Nat.le_refl _⟩
  have hp : p = 82 ∨ p = 83 ∨ p = 84 := by omega
  rcases hp with rfl | rfl | rfl
  · rw [a 82 rfl]
  · rw [a 83 rfl]
  · rw [a 84 rfl]
theorem rf_F0_arw {m : Int} {s t : sx_S} (hF : cx_F [(66, 66), (72, 73)] s t) (hf : rf_f [9] s t) (hu : rf_tu s t) : rf_F0 m s t [] := by
  have e : t.2.2 = s.2.2 := (hF 0).2
  have a : ∀ p, cx_outb [(66, 66), (72, 73)] p = true → t.2.1 p = s.2.1 p := fun p hp => (hF.same p hp).2
  refine ⟨fun p hp => (hF p).1 (cx_le_ok (W := [(66, 66), (72, 73), (82, 84), (93, 94), (100, 106)]) rfl hp), rf_f_step hf rfl (rf_f_refl _ _), ⟨hu, fun j => ?_⟩, rf_ag_F hF rfl (rf_ag_refl _ _ _ _), fun p j h1 h2 _ => ?_, rf_ag_F hF rfl (rf_ag_refl _ _ _ _), fun _ _ => by rw [e], by rw [e]; exact Nat.le_refl _⟩
  · rw [hf 58 rfl, hf 56 rfl, hf 50 rfl, hf 42 rfl, hf 45 rfl, a 106 rfl, a 105 rfl, a 104 rfl, a 96 rfl, a 123 rfl]
    exact ⟨⟨Int.le_refl _, Int.le_refl _, Int.le_refl _, rfl, rfl⟩, fun _ => rfl, fun _ => rfl, fun _ => rfl, rfl, rfl⟩
  · have hp : p = 82 ∨ p = 83 ∨ p = 84 := by omega
    rcases hp with rfl | rfl | rfl
    · rw [a 82 rfl]
    · rw [a 83 rfl]
    · rw [a 84 rfl]
/-- a variable more around -/
theorem rf_F0_push {t1 : sx_S} {r z1 w n1 n2 tok v : Int} {m : Int} (h1 : n1 = m) (h2 : n2 = m) (h0 : 0 ≤ m) : rf_F0 m t1 (sx_uf t1.1 66 34 w, sx_ua (sx_ua (sx_ua t1.2.1 82 r.toNat z1) 93 n1.toNat tok) 94 n2.toNat v, t1.2.2) [r.toNat] := by
  have e : ∀ q, q ≠ 34 → sx_uf t1.1 66 34 w 66 q = t1.1 66 q := fun q hq => by
    rw [sx_uf_if]
    exact if_neg (fun c => hq c.2)
  have a : ∀ q, q ≠ 82 → q ≠ 93 → q ≠ 94 → (sx_ua (sx_ua (sx_ua t1.2.1 82 r.toNat z1) 93 n1.toNat tok) 94 n2.toNat v) q = t1.2.1 q := fun q q1 q2 q3 => by
    rw [sx_ua_ne q3, sx_ua_ne q2, sx_ua_ne q1]
  refine ⟨fun p hp => ⟨?_, ?_⟩, ?_, ⟨fun j => ?_, fun j => ?_⟩, ?_, fun p j q1 q2 q3 => ?_, fun p j q1 q2 _ => ?_, fun _ _ => rfl, Nat.le_refl _⟩
  · have := hp (66, 66) (by simp)
    dsimp only at this
    show sx_uf t1.1 66 34 w p = _
    rw [sx_fv_ne (by omega)]
  · have z1 := hp (82, 84) (by simp)
    have z2 := hp (93, 94) (by simp)
    dsimp only at z1 z2 ⊢
    exact a p (by omega) (by omega) (by omega)
  · exact rf_f_uf rfl (rf_f_ua (rf_f_ua (rf_f_ua (F := t1.1) (A := t1.2.1) (B := t1.2.2) (rf_f_refl _ _))))
  · dsimp only
    rw [e 9 (by decide), a 72 (by decide) (by decide) (by decide), a 73 (by decide) (by decide) (by decide)]
    exact ⟨Int.le_refl _, fun _ => ⟨rfl, rfl⟩⟩
  · dsimp only
    rw [e 58 (by decide), e 56 (by decide), e 50 (by decide), e 42 (by decide), e 45 (by decide), a 106 (by decide) (by decide) (by decide), a 105 (by decide) (by decide) (by decide), a 104 (by decide) (by decide) (by decide), a 96 (by decide) (by decide) (by decide), a 123 (by decide) (by decide) (by decide)]
    exact ⟨⟨Int.le_refl _, Int.le_refl _, Int.le_refl _, rfl, rfl⟩, fun _ => rfl, fun _ => rfl, fun _ => rfl, rfl, rfl⟩
  · exact rf_ag_uf (rf_ag_ua (by omega) (by omega) (rf_ag_ua (by omega) (by omega) (rf_ag_uo rfl (F := t1.1) (A := t1.2.1) (B := t1.2.2) (rf_ag_refl _ _ _ _))))
  · dsimp only
    by_cases q : p = 82
    · rw [q, sx_ua_ne (by decide), sx_ua_ne (by decide), sx_ua_same]
      dsimp only
      rw [if_neg (fun z => q3 (by rw [z]; exact List.mem_cons_self))]
    · rw [a p q (by omega) (by omega)]
  · dsimp only
    rw [a p (by omega) (by omega) (by omega)]
theorem rf_nodup_disj {b : rf_N} : ∀ {a : rf_N}, (rf_idx (rf_snoc a b)).Nodup → ∀ j ∈ rf_idx a, j ∉ rf_idx b
  | .leaf, _, j, hj => absurd hj List.not_mem_nil
  | .inner i k _ f x, h, j, hj => by
    obtain ⟨h1, h2⟩ := List.nodup_cons.mp h
    obtain ⟨h3, h4, h5⟩ := List.nodup_append.mp h2
    rcases List.mem_cons.mp hj with rfl | hj
    · exact fun q => h1 (List.mem_append_right _ ((rf_idx_snoc _ _ _).mpr (Or.inr q)))
    · rcases List.mem_append.mp hj with hj | hj
      · exact fun q => h5 j hj j ((rf_idx_snoc _ _ _).mpr (Or.inr q)) rfl
      · exact rf_nodup_disj h4 j hj
