/-! ===== the reference: writing: what is kept ===== -/
theorem c_r_lambdaC {sL : Nat} {sx : Nat → Int32} (hsL : sL ≤ 3072) (d : Nat) (hd : 6 ≤ d) : ∀ (a0 a1 : Int) (s : sx_S) (K : Int → sx_S → Prop), cx_I s → (0 ≤ a0 ∧ a0 ≤ 399999) → (-2147483648 ≤ a1 ∧ a1 ≤ 2147483647) → (∀ (z : Int) (t : sx_S), cx_I t → cx_F [(66, 66), (107, 107), (122, 122)] s t → rf_f [86] s t → (∀ j : Nat, t.2.1 107 j = if j = a0.toNat then a1 else s.2.1 107 j) → K z t) → sx_C sL sx d 206 [.inr (.inl 66), .inl a0, .inl a1] s K := by
  intro a0 a1 s K hI p0 p1 hK
  obtain ⟨d, rfl⟩ : ∃ e, d = e + 2 := ⟨d - 2, by omega⟩
  have hI1 : cx_I (s.1, sx_ua s.2.1 107 a0.toNat a1, s.2.2) := cx_I_ua rfl rfl hI p1.1 p1.2
  refine sx_meth (wr := true) (n := 400) hsL (e := eX12_lambda) rfl (w_lambdaC (Q := fun _ _ _ => False) (P1 := fun t => cx_I t ∧ cx_F [(66, 66), (122, 122)] (s.1, sx_ua s.2.1 107 a0.toNat a1, s.2.2) t ∧ rf_f [86] (s.1, sx_ua s.2.1 107 a0.toNat a1, s.2.2) t) (P2 := fun t t2 => cx_I t2 ∧ cx_F [(66, 66), (122, 122)] t t2 ∧ rf_f [86] t t2) (P3 := fun t t2 => cx_I t2 ∧ cx_F [(66, 66), (122, 122)] t t2 ∧ rf_f [86] t t2) hI p0 p1 ?_ ?_ ?_ ?_)
  · intro K' hK'
    exact c_r_put hsL (d + 1) (by omega) 92 _ K' hI1 (by omega) (fun z t c1 c2 c3 => hK' z t ⟨c1, c2, c3⟩)
  · rintro t ⟨c1, _⟩ K' hK'
    exact c_r_putNumber hsL (d + 1) (by omega) 120 a1 t K' c1 (by omega) p1 (fun z t c1 c2 c3 => hK' z t ⟨c1, c2, c3⟩)
  · rintro t t2 _ ⟨c1, _⟩ K' hK'
    exact c_r_put hsL (d + 1) (by omega) 46 t2 K' c1 (by omega) (fun z t c1 c2 c3 => hK' z t ⟨c1, c2, c3⟩)
  · rintro t t2 t3 ⟨a1', a2, a3⟩ ⟨b1, b2, b3⟩ ⟨c1, c2, c3⟩
    have hF : cx_F [(66, 66), (107, 107), (122, 122)] s (s.1, sx_ua s.2.1 107 a0.toNat a1, s.2.2) := cx_F_ua rfl (cx_F_refl _ _)
    refine hK 0 t3 c1 (cx_F_step c2 rfl (cx_F_step b2 rfl (cx_F_step a2 rfl hF))) (fun k hk => (c3 k hk).trans ((b3 k hk).trans (a3 k hk))) (fun j => ?_)
    rw [(c2.same 107 rfl).2, (b2.same 107 rfl).2, (a2.same 107 rfl).2]
    show sx_ua s.2.1 107 a0.toNat a1 107 j = _
    rw [sx_ua_same]
/-- does a node have parts -/
theorem c_r_hasParts {sL : Nat} {sx : Nat → Int32} (hsL : sL ≤ 3072) (d : Nat) (hd : 2 ≤ d) : ∀ (N : Int → rf_T → Prop) (A : rf_N) (y : rf_Y) (x : rf_T) (W : List Nat) (p : Nat) (i b nb ib : Int) (s : sx_S) (g : rf_Gh) (K : Int → sx_S → Prop), cx_I s → rf_MI nb ib s g → rf_ph s g ≤ 1150 → rf_CL s g N A y x W p i b → (∀ z : Int, (0 ≤ z ∧ z ≤ 1) → K z s) → sx_C sL sx d 210 [.inr (.inl 66), .inl i, .inl b] s K := by
  intro N A y x W p i b nb ib s g K hI hM hph k hK
  obtain ⟨d, rfl⟩ : ∃ e, d = e + 2 := ⟨d - 2, by omega⟩
  have r50 := hI.fld 66 50 (by decide) rfl
  have r61 := hI.fld 66 61 (by decide) rfl
  refine sx_methL (wr := true) (n := 400) (n' := 400) (stop := [(2, [0, 3])]) (fun ms pc ls u => (pc = 2 ∧ ∃ (x3 : Int) (T : rf_N) (t : rf_T) (N : Int → rf_T → Prop) (c : Int) (W : List Nat) (p : Nat), ls = [(0, .inr (.inl 66)), (3, .inl x3)] ∧ s = u ∧ rf_no s T x3 ∧ (rf_gt (rf_Hn c s N) rf_P T).1 t ∧ rf_wy s g W (rf_oc T).1 (rf_wh T).1 p ∧ ms = p)) hsL (e := eX12_hasParts) rfl ?_ ?_
  · exact w_hasParts ⟨_, rfl, i, A, x, N, _, W, p, rfl, rfl, k.1.1, k.1.2.1, k.2.2.2, rfl⟩
  · rintro ms pc ls u ⟨rfl, x3, T, t, N, c, W, p, rfl, rfl, h1, h2, h3, rfl⟩
    cases T with
    | leaf => exact h2.elim
    | inner j kk uu f n =>
      obtain ⟨⟨m0, m1⟩, ⟨m2, m3⟩, m4, m5⟩ := h1
      have ej : x3.toNat = j := by omega
      have hr : kk.1 = 3 → 0 ≤ kk.2 ∧ kk.2 < s.1 66 61 := fun q => by
        rcases h2 with ⟨e, _⟩ | ⟨_, w, q1, _⟩
        · omega
        · exact (rf_Hn_3 q1 q).2.1
      refine w_hasParts_2 hI (by omega) (fun q => by rw [ej, m2] at q; have := hr q; rw [ej, m3]; omega) (fun q hs u hu => ?_) (fun z hz => hK z hz)
      rw [ej, m2] at q
      rw [ej, m3] at hs hu
      have hrr := hr q
      have hSV := (hM.1 kk.2 hrr.1 hrr.2).2.2.2 hs
      have hpp := rf_wy_pos h3 hph
      have hw5 : (rf_wh (.inner j kk uu f n)).1 = 5 := if_pos q
      have hin := rf_wy_in h3 hM hph (x := kk.2) (Or.inl ⟨q, rfl⟩) (by omega) hrr.1 hrr.2 hs
      exact ⟨_, by omega, rfl, u, g.1 kk.2, .leaf, _, _, _, ms - 5, rfl, rfl, by rw [hu]; exact hSV.1.1, hSV.1.2.1, hin, rfl⟩
/-- numbers and orders of the open unknowns -/
def rf_OD (s : sx_S) : Prop := (0 ≤ s.1 66 83 ∧ 0 ≤ s.1 66 79 ∧ s.1 66 83 + s.1 66 79 ≤ ((rf_sum (fun x => if s.2.1 118 x = -1 then 0 else 5) (s.1 66 61).toNat : Nat) : Int)) ∧ ∀ m : Nat, (m : Int) < s.1 66 61 → s.2.1 118 m ≠ -1 → (0 ≤ s.2.1 120 m ∧ s.2.1 120 m + s.2.1 108 m ≤ s.1 66 83) ∧ ∀ q : Nat, (q : Int) < s.2.1 108 m → 0 ≤ s.2.1 121 (s.2.1 120 m + (q : Int)).toNat ∧ s.2.1 121 (s.2.1 120 m + (q : Int)).toNat < s.2.1 108 m
theorem rf_sum_bd {f : Nat → Nat} {c : Nat} (h : ∀ j, f j ≤ c) : ∀ n : Nat, rf_sum f n ≤ n * c
  | 0 => by
    rw [Nat.zero_mul]
    exact Nat.le_refl _
  | n + 1 => by
    have h1 := rf_sum_bd h n
    have h2 := h n
    rw [rf_sum_s, Nat.add_mul, Nat.one_mul]
    omega
theorem rf_OD_bd {s : sx_S} (h : rf_OD s) (h61 : s.1 66 61 ≤ 2900) : (0 ≤ s.1 66 83 ∧ s.1 66 83 ≤ 14500) ∧ (0 ≤ s.1 66 79 ∧ s.1 66 79 ≤ 14500) := by
  have h0 : ∀ j : Nat, (fun x => if s.2.1 118 x = -1 then 0 else 5) j ≤ 5 := fun j => by
    show (if s.2.1 118 j = -1 then 0 else 5) ≤ 5
    by_cases c : s.2.1 118 j = -1
    · rw [if_pos c]
      omega
    · rw [if_neg c]
      omega
  have h1 := rf_sum_bd (f := fun x => if s.2.1 118 x = -1 then 0 else 5) (c := 5) h0 (s.1 66 61).toNat
  have h2 := h.1
  omega
theorem rf_OD_same {s t : sx_S} (h : rf_OD s) (e61 : t.1 66 61 = s.1 66 61) (e83 : t.1 66 83 = s.1 66 83) (e79 : t.1 66 79 = s.1 66 79) (ea : ∀ p, p = 108 ∨ p = 118 ∨ p = 120 ∨ p = 121 → t.2.1 p = s.2.1 p) : rf_OD t := by
  unfold rf_OD
  rw [e61, e83, e79, ea 108 (by decide), ea 118 (by decide), ea 120 (by decide), ea 121 (by decide)]
  exact h
/-- what writing leaves as it was -/
def rf_WF (s t : sx_S) : Prop := (cx_F [(66, 66), (100, 103), (105, 107), (115, 122)] s t ∧ rf_f [50, 58, 71, 79, 83, 86] s t ∧ t.1 66 50 = s.1 66 50) ∧ (rf_ag 100 103 (s.1 66 50) s t ∧ rf_ag 105 105 (s.1 66 56) s t ∧ rf_ag 106 107 (s.1 66 58) s t ∧ rf_ag 115 117 (s.1 66 71) s t) ∧ s.1 66 58 ≤ t.1 66 58 ∧ s.1 66 71 ≤ t.1 66 71 ∧ ∀ j : Nat, s.2.1 118 j ≠ -1 → t.2.1 118 j ≠ -1
theorem rf_WF_refl (s : sx_S) : rf_WF s s := ⟨⟨cx_F_refl _ _, rf_f_refl _ _, rfl⟩, ⟨rf_ag_refl _ _ _ _, rf_ag_refl _ _ _ _, rf_ag_refl _ _ _ _, rf_ag_refl _ _ _ _⟩, Int.le_refl _, Int.le_refl _, fun _ h => h⟩
theorem rf_WF_trans {s t u : sx_S} (h2 : rf_WF t u) (h1 : rf_WF s t) : rf_WF s u := by
  obtain ⟨⟨a1, a2, a3⟩, ⟨a4, a5, a6, a7⟩, a8, a9, a10⟩ := h1
  obtain ⟨⟨b1, b2, b3⟩, ⟨b4, b5, b6, b7⟩, b8, b9, b10⟩ := h2
  have e56 := a2 56 rfl
  exact ⟨⟨cx_F_step b1 rfl a1, rf_f_step b2 rfl a2, b3.trans a3⟩, ⟨rf_ag_trans b4 (by omega) a4, rf_ag_trans b5 (by omega) a5, rf_ag_trans b6 a8 a6, rf_ag_trans b7 a9 a7⟩, by omega, by omega, fun j hj => b10 j (a10 j hj)⟩
theorem rf_WF_EX {s t : sx_S} (h : rf_WF s t) : rf_EX (s.1 66 71) (s.1 66 58) s t ∧ rf_NC s t := by
  obtain ⟨⟨a1, a2, a3⟩, ⟨a4, a5, a6, a7⟩, a8, a9, _⟩ := h
  have e56 := a2 56 rfl
  have e61 := a2 61 rfl
  have e64 := a2 64 rfl
  have e70 := a2 70 rfl
  refine ⟨⟨⟨⟨a2 9 rfl, (a1.same 72 rfl).2, (a1.same 73 rfl).2, (a1.same 96 rfl).2, a2 42 rfl⟩, by omega, by omega, by omega, by omega, by omega⟩, fun j => ⟨fun hj => ⟨a4 100 j (by omega) (by omega) hj, a4 101 j (by omega) (by omega) hj, a4 102 j (by omega) (by omega) hj, a4 103 j (by omega) (by omega) hj, by rw [(a1.same 104 rfl).2]⟩, fun hj => a5 105 j (by omega) (by omega) hj, fun hj => a6 106 j (by omega) (by omega) hj, fun _ => ⟨by rw [(a1.same 108 rfl).2], by rw [(a1.same 109 rfl).2], fun _ => ⟨by rw [(a1.same 111 rfl).2], by rw [(a1.same 112 rfl).2], by rw [(a1.same 113 rfl).2], by rw [(a1.same 114 rfl).2]⟩⟩, fun _ => by rw [(a1.same 110 rfl).2], fun hj => ⟨a7 115 j (by omega) (by omega) hj, a7 116 j (by omega) (by omega) hj, a7 117 j (by omega) (by omega) hj⟩⟩⟩, e61, fun j _ => by rw [(a1.same 111 rfl).2]⟩
/-- small steps of writing -/
theorem rf_WF_put {s t : sx_S} (hF : cx_F [(66, 66), (122, 122)] s t) (hf : rf_f [86] s t) : rf_WF s t ∧ (rf_OD s → rf_OD t) ∧ t.1 66 71 = s.1 66 71 ∧ t.1 66 58 = s.1 66 58 ∧ t.2.1 107 = s.2.1 107 := by
  have e50 := hf 50 rfl
  have e58 := hf 58 rfl
  have e71 := hf 71 rfl
  refine ⟨⟨⟨cx_F_step hF rfl (cx_F_refl _ _), rf_f_step hf rfl (rf_f_refl _ _), e50⟩, ⟨rf_ag_F hF rfl (rf_ag_refl _ _ _ _), rf_ag_F hF rfl (rf_ag_refl _ _ _ _), rf_ag_F hF rfl (rf_ag_refl _ _ _ _), rf_ag_F hF rfl (rf_ag_refl _ _ _ _)⟩, by omega, by omega, fun j hj => by rw [(hF.same 118 rfl).2]; exact hj⟩, fun h => rf_OD_same h (hf 61 rfl) (hf 83 rfl) (hf 79 rfl) (fun p hp => ?_), e71, e58, (hF.same 107 rfl).2⟩
  rcases hp with rfl | rfl | rfl | rfl <;> exact (hF.same _ rfl).2
/-- the variables that stand free are called by such of distinct depths, below this one -/
def rf_DI (s : sx_S) (y : rf_Y) (F : Int → Prop) (dp : Int) : Prop := ∀ v, F v → (0 ≤ s.2.1 107 (rf_look y v).toNat ∧ s.2.1 107 (rf_look y v).toNat < dp) ∧ ∀ w, F w → s.2.1 107 (rf_look y v).toNat = s.2.1 107 (rf_look y w).toNat → v = w
theorem rf_DI_le {s : sx_S} {y : rf_Y} {F F' : Int → Prop} {dp : Int} (h : ∀ v, F' v → F v) (k : rf_DI s y F dp) : rf_DI s y F' dp := fun v hv => ⟨(k v (h v hv)).1, fun w hw => (k v (h v hv)).2 w (h w hw)⟩
/-- the depths of older variables are as they were -/
theorem rf_DI_up {s t : sx_S} {g : rf_Gh} {N : Int → rf_T → Prop} {A : rf_N} {y : rf_Y} {x : rf_T} {i b dp : Int} (hu : rf_Ub s g) (a1 : rf_no s A i) (a2 : (rf_gt (rf_Hn (s.1 66 58) s N) rf_P A).1 x) (a4 : rf_NM s N y b) (ha : rf_ag 107 107 (s.1 66 58) s t) (k : rf_DI s y (rf_fo (rf_Wd s g.2.2) A).1 dp) : rf_DI t y (rf_fo (rf_Wd s g.2.2) A).1 dp := by
  have e : ∀ v, (rf_fo (rf_Wd s g.2.2) A).1 v → t.2.1 107 (rf_look y v).toNat = s.2.1 107 (rf_look y v).toNat := fun v hv => by
    obtain ⟨T, hT⟩ := rf_fo_typed hu a1 a2 a4 v hv
    have := hT.1
    exact ha 107 _ (by omega) (by omega) (by omega)
  intro v hv
  rw [e v hv]
  refine ⟨(k v hv).1, fun w hw q => (k v hv).2 w hw ?_⟩
  rw [e w hw] at q
  exact q
