/-! ===== the reference: writeFresh ===== -/
theorem rf_sum_le2 {f h : Nat → Nat} : ∀ {n : Nat}, (∀ i, i < n → f i ≤ h i) → rf_sum f n ≤ rf_sum h n
  | 0, _ => Nat.le_refl _
  | n + 1, q => by
    have h1 := rf_sum_le2 (n := n) (fun i hi => q i (by omega))
    have h2 := q n (by omega)
    rw [rf_sum_s, rf_sum_s]
    omega
theorem rf_sum_lt2 {f h : Nat → Nat} {j : Nat} : ∀ {n : Nat}, j < n → (∀ i, i < n → f i ≤ h i) → f j < h j → rf_sum f n < rf_sum h n
  | 0, hj, _, _ => absurd hj (Nat.not_lt_zero _)
  | n + 1, hj, q, hl => by
    rw [rf_sum_s, rf_sum_s]
    by_cases e : j = n
    · have h1 := rf_sum_le2 (n := n) (fun i hi => q i (by omega))
      rw [e] at hl
      omega
    · have h1 := rf_sum_lt2 (n := n) (by omega) (fun i hi => q i (by omega)) hl
      have h2 := q n (by omega)
      omega
/-- how many lie below the k-th -/
def rf_r1 (D : Nat → Int) (k j : Nat) : Nat := if D j < D k then 1 else 0
def rf_rnk (D : Nat → Int) (n k : Nat) : Nat := rf_sum (rf_r1 D k) n
theorem rf_one_sum : ∀ n : Nat, rf_sum (fun _ => 1) n = n
  | 0 => rfl
  | n + 1 => by
    rw [rf_sum_s, rf_one_sum n]
theorem rf_r1_le (D : Nat → Int) (k j : Nat) : rf_r1 D k j ≤ 1 := by
  unfold rf_r1
  by_cases c : D j < D k
  · rw [if_pos c]
    omega
  · rw [if_neg c]
    omega
theorem rf_rnk_lt {D : Nat → Int} {n k : Nat} (hk : k < n) : rf_rnk D n k < n := by
  have h1 : rf_r1 D k k < 1 := by
    unfold rf_r1
    rw [if_neg (by omega)]
    omega
  have := rf_sum_lt2 (f := rf_r1 D k) (h := fun _ => 1) (j := k) (n := n) hk (fun i _ => rf_r1_le D k i) h1
  rw [rf_one_sum] at this
  exact this
theorem rf_rnk_mono {D : Nat → Int} {n j k : Nat} (hj : j < n) (h : D j < D k) : rf_rnk D n j < rf_rnk D n k := by
  refine rf_sum_lt2 (j := j) hj (fun i _ => ?_) ?_
  · unfold rf_r1
    by_cases c : D i < D j
    · rw [if_pos c, if_pos (by omega)]
      omega
    · rw [if_neg c]
      omega
  · unfold rf_r1
    rw [if_neg (by omega), if_pos h]
    omega
theorem rf_rnk_inj {D : Nat → Int} {n j k : Nat} (hD : ∀ a b, a < n → b < n → D a = D b → a = b) (hj : j < n) (hk : k < n) (h : rf_rnk D n j = rf_rnk D n k) : j = k := by
  by_cases c : D j = D k
  · exact hD j k hj hk c
  · by_cases c2 : D j < D k
    · have := rf_rnk_mono (n := n) hj c2
      omega
    · have := rf_rnk_mono (D := D) (n := n) hk (show D k < D j by omega)
      omega
theorem rf_rnk_sur {D : Nat → Int} {n : Nat} (hn : n ≤ 4) (hD : ∀ a b, a < n → b < n → D a = D b → a = b) {r : Nat} (hr : r < n) : ∃ k, k < n ∧ rf_rnk D n k = r := by
  refine Classical.byContradiction (fun hc => ?_)
  have hne : ∀ k, k < n → rf_rnk D n k ≠ r := fun k hk e => hc ⟨k, hk, e⟩
  have hlt : ∀ k, k < n → rf_rnk D n k < n := fun k hk => rf_rnk_lt hk
  have hin : ∀ j k, j < n → k < n → rf_rnk D n j = rf_rnk D n k → j = k := fun j k hj hk e => rf_rnk_inj hD hj hk e
  have hcase : n = 1 ∨ n = 2 ∨ n = 3 ∨ n = 4 := by omega
  rcases hcase with rfl | rfl | rfl | rfl
  · have a0 := hne 0 (by omega)
    have b0 := hlt 0 (by omega)
    omega
  · have a0 := hne 0 (by omega)
    have a1 := hne 1 (by omega)
    have b0 := hlt 0 (by omega)
    have b1 := hlt 1 (by omega)
    have c01 := fun e => hin 0 1 (by omega) (by omega) e
    omega
  · have a0 := hne 0 (by omega)
    have a1 := hne 1 (by omega)
    have a2 := hne 2 (by omega)
    have b0 := hlt 0 (by omega)
    have b1 := hlt 1 (by omega)
    have b2 := hlt 2 (by omega)
    have c01 := fun e => hin 0 1 (by omega) (by omega) e
    have c02 := fun e => hin 0 2 (by omega) (by omega) e
    have c12 := fun e => hin 1 2 (by omega) (by omega) e
    omega
  · have a0 := hne 0 (by omega)
    have a1 := hne 1 (by omega)
    have a2 := hne 2 (by omega)
    have a3 := hne 3 (by omega)
    have b0 := hlt 0 (by omega)
    have b1 := hlt 1 (by omega)
    have b2 := hlt 2 (by omega)
    have b3 := hlt 3 (by omega)
    have c01 := fun e => hin 0 1 (by omega) (by omega) e
    have c02 := fun e => hin 0 2 (by omega) (by omega) e
    have c03 := fun e => hin 0 3 (by omega) (by omega) e
    have c12 := fun e => hin 1 2 (by omega) (by omega) e
    have c13 := fun e => hin 1 3 (by omega) (by omega) e
    have c23 := fun e => hin 2 3 (by omega) (by omega) e
    omega
/-- an open unknown gets its number, and its order is made -/
def rf_FA (s u : sx_S) (m : Int) (D : Nat → Int) (x5 : Int) : Prop := (cx_I u ∧ cx_F [(66, 66), (118, 118), (120, 121)] s u ∧ rf_f [79] s u ∧ u.1 66 79 = s.1 66 79 + 1) ∧ (∀ j : Nat, u.2.1 118 j = if j = m.toNat then s.1 66 79 else s.2.1 118 j) ∧ (∀ j : Nat, u.2.1 120 j = if j = m.toNat then s.1 66 83 else s.2.1 120 j) ∧ (∀ j : Nat, (j : Int) < s.1 66 83 → u.2.1 121 j = s.2.1 121 j) ∧ ∀ k : Nat, (k : Int) < x5 → u.2.1 121 (s.1 66 83 + ((rf_rnk D (s.2.1 108 m.toNat).toNat k : Nat) : Int)).toNat = (k : Int)
theorem rf_FA_OD {s u : sx_S} {m : Int} {D : Nat → Int} {v : Int} (hm : 0 ≤ m ∧ m < s.1 66 61) (hs : s.2.1 118 m.toNat = -1) (hO : rf_OD s) (r108 : 0 ≤ s.2.1 108 m.toNat ∧ s.2.1 108 m.toNat ≤ 4) (hD : ∀ a b, a < (s.2.1 108 m.toNat).toNat → b < (s.2.1 108 m.toNat).toNat → D a = D b → a = b) (h : rf_FA s u m D (s.2.1 108 m.toNat)) (hv : v = s.1 66 83 + s.2.1 108 m.toNat) : rf_OD (sx_uf u.1 66 83 v, u.2) := by
  obtain ⟨⟨h1, h2, h3, h4⟩, h5, h6, h7, h8⟩ := h
  obtain ⟨⟨o1, o2, o3⟩, o4⟩ := hO
  have e61 := h3 61 rfl
  have e83 : sx_uf u.1 66 83 v 66 83 = v := by
    rw [sx_uf_if]
    exact if_pos ⟨rfl, rfl⟩
  have o : ∀ k, k ≠ 83 → sx_uf u.1 66 83 v 66 k = u.1 66 k := fun k hk => by
    rw [sx_uf_if]
    exact if_neg (fun c => hk c.2)
  have e108 : u.2.1 108 = s.2.1 108 := (h2.same 108 rfl).2
  have hsum : rf_sum (fun x => if u.2.1 118 x = -1 then 0 else 5) (s.1 66 61).toNat = rf_sum (fun x => if s.2.1 118 x = -1 then 0 else 5) (s.1 66 61).toNat + 5 := by
    have q1 := rf_sum_upd (f := fun x => if u.2.1 118 x = -1 then 0 else 5) (g := fun x => if s.2.1 118 x = -1 then 0 else 5) (x := m.toNat) (n := (s.1 66 61).toNat) (by omega) (fun j hj => by
      show (if u.2.1 118 j = -1 then 0 else 5) = (if s.2.1 118 j = -1 then 0 else 5)
      rw [h5 j, if_neg hj])
    have q2 : (if u.2.1 118 m.toNat = -1 then (0 : Nat) else 5) = 5 := by
      rw [h5, if_pos rfl, if_neg (by omega)]
    have q3 : (if s.2.1 118 m.toNat = -1 then (0 : Nat) else 5) = 0 := if_pos hs
    rw [q2, q3] at q1
    omega
  refine ⟨⟨?_, ?_, ?_⟩, fun q hq hne => ?_⟩
  · show 0 ≤ sx_uf u.1 66 83 v 66 83
    omega
  · show 0 ≤ sx_uf u.1 66 83 v 66 79
    rw [o 79 (by decide)]
    omega
  · show sx_uf u.1 66 83 v 66 83 + sx_uf u.1 66 83 v 66 79 ≤ ((rf_sum (fun x => if u.2.1 118 x = -1 then 0 else 5) (sx_uf u.1 66 83 v 66 61).toNat : Nat) : Int)
    rw [e83, o 79 (by decide), o 61 (by decide), e61, hsum]
    push_cast
    omega
  · have hq2 : (q : Int) < s.1 66 61 := by
      have : (q : Int) < sx_uf u.1 66 83 v 66 61 := hq
      rw [o 61 (by decide)] at this
      omega
    have hne2 : u.2.1 118 q ≠ -1 := hne
    show (0 ≤ u.2.1 120 q ∧ u.2.1 120 q + u.2.1 108 q ≤ sx_uf u.1 66 83 v 66 83) ∧ ∀ r : Nat, (r : Int) < u.2.1 108 q → 0 ≤ u.2.1 121 (u.2.1 120 q + (r : Int)).toNat ∧ u.2.1 121 (u.2.1 120 q + (r : Int)).toNat < u.2.1 108 q
    rw [e83, e108, h6 q]
    by_cases c : q = m.toNat
    · rw [if_pos c, c]
      refine ⟨by omega, fun r hr => ?_⟩
      obtain ⟨k, k1, k2⟩ := rf_rnk_sur (n := (s.2.1 108 m.toNat).toNat) (by omega) hD (r := r) (by omega)
      have := h8 k (by omega)
      rw [k2] at this
      rw [this]
      omega
    · rw [if_neg c]
      rw [h5 q, if_neg c] at hne2
      obtain ⟨w1, w2⟩ := o4 q hq2 hne2
      refine ⟨by omega, fun r hr => ?_⟩
      rw [h7 _ (by omega)]
      exact w2 r hr
theorem c_r_writeFresh {sL : Nat} {sx : Nat → Int32} (hsL : sL ≤ 3072) (d : Nat) (hd : 120 ≤ d) (w0 : rf_WT sL sx false 9 d) : ∀ (N : Int → rf_T → Prop) (A : rf_N) (y : rf_Y) (x : rf_T) (W : List Nat) (p : Nat) (i b dp nb ib : Int) (s : sx_S) (g : rf_Gh) (K : Int → sx_S → Prop), rf_WW true nb ib s g → rf_CL s g N A y x W p i b → s.2.1 100 i.toNat = 3 → s.2.1 111 (s.2.1 101 i.toNat).toNat = 0 → rf_DI s y (rf_fo (rf_Wd s g.2.2) A).1 dp → (0 ≤ dp ∧ dp ≤ 99900) → s.1 66 71 ≤ 399800 → s.1 66 58 ≤ 399800 → (∀ z t, cx_I t → rf_WF s t → rf_OD t → t.1 66 71 ≤ s.1 66 71 + 36 → t.1 66 58 = s.1 66 58 → K z t) → sx_C sL sx (d + 2) 211 [.inr (.inl 66), .inl i, .inl b, .inl dp] s K := by
  intro N A y x W p i b dp nb ib s g K hW k h3 ho hDI hdp h71 h58 hK
  have hW0 := hW
  obtain ⟨⟨hI, hM, hnb, hib, hph⟩, h70, h61, h9, ⟨h50, h56⟩, hO⟩ := hW
  have pA := rf_CL_b hI k
  obtain ⟨hr, hbn, hx, j, kk, uu, f, n, eA, ej, k3, ek⟩ := rf_CL_3 k h3
  subst eA
  rw [← ek] at hr hbn ho
  have kN := k.1.2.2.2
  have dY : rf_dp y ≤ 100 := by have := kN.2.2.2; omega
  have r108 := hI.arr 108 (by decide) rfl kk.2.toNat
  have raa : rf_aa s kk.2 = s.2.1 108 kk.2.toNat := rfl
  have hbd := rf_OD_bd hO h61
  have hU := (hM.1 kk.2 hr.1 hr.2).2.2.1 ho
  have hF : ∀ q : Nat, (q : Int) < s.2.1 108 kk.2.toNat → (rf_fo (rf_Wd s g.2.2) (.inner j kk uu f n)).1 (rf_rv1 s j q) := fun q hq => Or.inl ⟨k3, q, hU q hq, rfl⟩
  have hvo : ∀ q, rf_vo s y i q = rf_look y (rf_rv1 s j q) := fun q => by
    unfold rf_vo rf_rv1
    rw [ej]
  have hty : ∀ q : Nat, (q : Int) < s.2.1 108 kk.2.toNat → ∃ T, rf_at T ≤ 5 ∧ rf_vb (s.1 66 58) s (rf_look y (rf_rv1 s j q)) T := fun q hq => by
    rcases k.1.2.1 with ⟨c, _⟩ | ⟨_, w, hw, _⟩
    · omega
    · obtain ⟨T, t1, t2⟩ := (rf_Hn_3 hw k3).2.2.2 q hq
      exact ⟨T, t1.2.2, kN.2.2.1 _ T t2⟩
  obtain ⟨D, hDdef⟩ : ∃ D : Nat → Int, ∀ q, D q = s.2.1 107 (rf_look y (rf_rv1 s j q)).toNat := ⟨_, fun _ => rfl⟩
  have hDin : ∀ a b, a < (s.2.1 108 kk.2.toNat).toNat → b < (s.2.1 108 kk.2.toNat).toNat → D a = D b → a = b := fun a b ha hb e => by
    rw [hDdef, hDdef] at e
    exact k.2.1.1.1 k3 a b (hU a (by omega)) (hU b (by omega)) ((hDI _ (hF a (by omega))).2 _ (hF b (by omega)) e)
  refine sx_methL (wr := true) (n := 400) (n' := 400) (stop := [(19, [0, 1, 2, 3, 4]), (54, [0, 1, 2, 3, 4, 5]), (72, [0, 1, 2, 3, 4, 5, 6, 7]), (149, [0, 1, 2, 3, 4]), (165, [0, 1, 2, 3, 4]), (178, [0, 1, 2, 3, 4]), (181, [0, 1, 2, 3, 4, 5]), (199, [0, 1, 2, 3, 4, 5])]) (fun ms pc ls u => (pc = 19 ∧ ls = [(0, .inr (.inl 66)), (1, .inl i), (2, .inl b), (3, .inl dp), (4, .inl kk.2)] ∧ s = u ∧ s.2.1 118 kk.2.toNat = -1 ∧ ms = 900) ∨ (pc = 54 ∧ ∃ x5 : Int, ls = [(0, .inr (.inl 66)), (1, .inl i), (2, .inl b), (3, .inl dp), (4, .inl kk.2), (5, .inl x5)] ∧ s.2.1 118 kk.2.toNat = -1 ∧ rf_FA s u kk.2 D x5 ∧ (0 ≤ x5 ∧ x5 ≤ s.2.1 108 kk.2.toNat) ∧ ms = 500 + 10 * (4 - x5).toNat + 9) ∨ (pc = 72 ∧ ∃ x5 x6 x7 : Int, ls = [(0, .inr (.inl 66)), (1, .inl i), (2, .inl b), (3, .inl dp), (4, .inl kk.2), (5, .inl x5), (6, .inl x6), (7, .inl x7)] ∧ s.2.1 118 kk.2.toNat = -1 ∧ rf_FA s u kk.2 D x5 ∧ (0 ≤ x5 ∧ x5 < s.2.1 108 kk.2.toNat) ∧ (0 ≤ x7 ∧ x7 ≤ s.2.1 108 kk.2.toNat) ∧ x6 = ((rf_sum (rf_r1 D x5.toNat) x7.toNat : Nat) : Int) ∧ ms = 500 + 10 * (4 - x5).toNat + (4 - x7).toNat) ∨ (pc = 149 ∧ ls = [(0, .inr (.inl 66)), (1, .inl i), (2, .inl b), (3, .inl dp), (4, .inl kk.2)] ∧ s.2.1 118 kk.2.toNat = -1 ∧ rf_FA s u kk.2 D (s.2.1 108 kk.2.toNat) ∧ ms = 400) ∨ (pc = 165 ∧ ls = [(0, .inr (.inl 66)), (1, .inl i), (2, .inl b), (3, .inl dp), (4, .inl kk.2)] ∧ (cx_I u ∧ rf_WF s u ∧ rf_OD u ∧ u.2.1 118 kk.2.toNat ≠ -1 ∧ u.1 66 71 = s.1 66 71 ∧ u.1 66 58 = s.1 66 58) ∧ ms = 300) ∨ (pc = 178 ∧ ls = [(0, .inr (.inl 66)), (1, .inl i), (2, .inl b), (3, .inl dp), (4, .inl kk.2)] ∧ (cx_I u ∧ rf_WF s u ∧ rf_OD u ∧ u.2.1 118 kk.2.toNat ≠ -1 ∧ u.1 66 71 = s.1 66 71 ∧ u.1 66 58 = s.1 66 58) ∧ ms = 200) ∨ (pc = 181 ∧ ∃ x5 : Int, ls = [(0, .inr (.inl 66)), (1, .inl i), (2, .inl b), (3, .inl dp), (4, .inl kk.2), (5, .inl x5)] ∧ (cx_I u ∧ rf_WF s u ∧ rf_OD u ∧ u.2.1 118 kk.2.toNat ≠ -1 ∧ u.1 66 71 ≤ s.1 66 71 + 9 * x5 ∧ u.1 66 58 = s.1 66 58) ∧ (0 ≤ x5 ∧ x5 ≤ s.2.1 108 kk.2.toNat) ∧ ms = 2 * (4 - x5).toNat + 1) ∨ (pc = 199 ∧ ∃ x5 : Int, ls = [(0, .inr (.inl 66)), (1, .inl i), (2, .inl b), (3, .inl dp), (4, .inl kk.2), (5, .inl x5)] ∧ (cx_I u ∧ rf_WF s u ∧ rf_OD u ∧ u.2.1 118 kk.2.toNat ≠ -1 ∧ u.1 66 71 ≤ s.1 66 71 + 9 * x5 ∧ u.1 66 58 = s.1 66 58) ∧ (0 ≤ x5 ∧ x5 < s.2.1 108 kk.2.toNat) ∧ ms = 2 * (4 - x5).toNat)) hsL (e := eX12_writeFresh) rfl ?_ ?_
  · refine w_fresh hI pA (by rw [← ek]; omega) (fun m hm q => ?_) (fun m hm q => ?_)
    · rw [← ek] at hm
      subst hm
      exact ⟨_, Or.inl ⟨rfl, rfl, rfl, q, rfl⟩⟩
    · rw [← ek] at hm
      subst hm
      exact ⟨_, Or.inr (Or.inr (Or.inr (Or.inr (Or.inl ⟨rfl, rfl, ⟨hI, rf_WF_refl s, hO, q, rfl, rfl⟩, rfl⟩))))⟩
  · rintro ms pc ls u (⟨rfl, rfl, rfl, hf, rfl⟩ | ⟨rfl, x5, rfl, hf, hA, h5, rfl⟩ | ⟨rfl, x5, x6, x7, rfl, hf, hA, h5, h7, h6, rfl⟩ | ⟨rfl, rfl, hf, hA, rfl⟩ | ⟨rfl, rfl, ⟨u1, u2, u3, u4, u5, u6⟩, rfl⟩ | ⟨rfl, rfl, ⟨u1, u2, u3, u4, u5, u6⟩, rfl⟩ | ⟨rfl, x5, rfl, ⟨u1, u2, u3, u4, u5, u6⟩, h5, rfl⟩ | ⟨rfl, x5, rfl, ⟨u1, u2, u3, u4, u5, u6⟩, h5, rfl⟩)
    · -- 19
      refine w_fresh_19 hI (by omega) (by omega) (fun ff w v hff hw hv => ⟨_, by omega, Or.inr (Or.inl ⟨rfl, 0, rfl, hf, ⟨⟨?_, ?_, ?_, ?_⟩, fun q => ?_, fun q => ?_, fun q _ => ?_, fun q hq => by omega⟩, by omega, rfl⟩)⟩)
      · exact cx_I_ua rfl rfl (cx_I_ua rfl rfl (cx_I_uf rfl rfl hI (by omega) (by omega)) (by omega) (by omega)) (by omega) (by omega)
      · exact cx_F_ua rfl (cx_F_ua rfl (cx_F_uf rfl (cx_F_refl _ _)))
      · exact rf_f_uf rfl (rf_f_refl _ _)
      · show sx_uf s.1 66 79 w 66 79 = _
        rw [sx_uf_if, if_pos ⟨rfl, rfl⟩]
        exact hw
      · show sx_ua (sx_ua s.2.1 118 kk.2.toNat ff) 120 kk.2.toNat v 118 q = _
        rw [sx_ua_ne (by decide), sx_ua_same, hff]
      · show sx_ua (sx_ua s.2.1 118 kk.2.toNat ff) 120 kk.2.toNat v 120 q = _
        rw [sx_ua_same, sx_ua_ne (by decide), hv]
      · show sx_ua (sx_ua s.2.1 118 kk.2.toNat ff) 120 kk.2.toNat v 121 q = _
        rw [sx_ua_ne (by decide), sx_ua_ne (by decide)]
    · -- 54
      have e108 : u.2.1 108 = s.2.1 108 := (hA.1.2.1.same 108 rfl).2
      refine w_fresh_54 hA.1.1 (by omega) (by omega) (fun q => ?_) (fun q => ?_)
      · rw [e108] at q
        have ex : x5 = s.2.1 108 kk.2.toNat := by omega
        rw [ex] at hA
        exact ⟨_, by omega, Or.inr (Or.inr (Or.inr (Or.inl ⟨rfl, rfl, hf, hA, rfl⟩)))⟩
      · rw [e108] at q
        exact ⟨_, by omega, Or.inr (Or.inr (Or.inl ⟨rfl, x5, 0, 0, rfl, hf, hA, by omega, by omega, rfl, rfl⟩))⟩
    · -- 72
      have hA0 := hA
      obtain ⟨⟨a1, a2, a3, a4⟩, a5, a6, a7, a8⟩ := hA
      have e108 : u.2.1 108 = s.2.1 108 := (a2.same 108 rfl).2
      have e107 : u.2.1 107 = s.2.1 107 := (a2.same 107 rfl).2
      have e83 := a3 83 rfl
      have hyu : rf_bs u y b := by
        unfold rf_bs
        rw [(a2.same 115 rfl).2, (a2.same 116 rfl).2, (a2.same 117 rfl).2, a3 71 rfl]
        exact kN.1
      have hvu : ∀ q, rf_vo u y i q = rf_look y (rf_rv1 s j q) := fun q => by
        rw [← hvo]
        unfold rf_vo
        rw [(a2.same 104 rfl).2, (a2.same 105 rfl).2]
      have hs6 : rf_sum (rf_r1 D x5.toNat) x7.toNat ≤ 3 := by
        have q1 : rf_sum (rf_r1 D x5.toNat) x7.toNat ≤ rf_rnk D (s.2.1 108 kk.2.toNat).toNat x5.toNat := by
          have : ∀ a c : Nat, rf_sum (rf_r1 D x5.toNat) a ≤ rf_sum (rf_r1 D x5.toNat) (a + c) := fun a c => by
            induction c with
            | zero => exact Nat.le_refl _
            | succ c ih =>
              rw [show a + (c + 1) = (a + c) + 1 from rfl, rf_sum_s]
              omega
          have q2 := this x7.toNat ((s.2.1 108 kk.2.toNat).toNat - x7.toNat)
          rw [show x7.toNat + ((s.2.1 108 kk.2.toNat).toNat - x7.toNat) = (s.2.1 108 kk.2.toNat).toNat by omega] at q2
          exact q2
        have q3 := rf_rnk_lt (D := D) (n := (s.2.1 108 kk.2.toNat).toNat) (k := x5.toNat) (by omega)
        omega
      have b104 : (u.2.1 104 i.toNat) = s.2.1 104 i.toNat := by rw [(a2.same 104 rfl).2]
      refine w_fresh_72 (w1 := rf_vo u y i x7.toNat) (w2 := rf_vo u y i x5.toNat) a1 (by omega) (by omega) (by omega) (by omega) ?_ ?_ (by omega) ?_ ?_ ?_ ?_
      · intro q
        rw [e108] at q
        obtain ⟨T, _, hT⟩ := hty x7.toNat (by omega)
        rw [hvu]
        have := hT.1
        omega
      · intro q
        obtain ⟨T, _, hT⟩ := hty x5.toNat (by omega)
        rw [hvu]
        have := hT.1
        omega
      · intro q K' hK'
        rw [e108] at q
        exact c_r_varOf hsL 100 (d + 1) (by omega) y i b x7 u K' a1 pA (by omega) (by omega) dY hyu hK'
      · intro q K' hK'
        exact c_r_varOf hsL 100 (d + 1) (by omega) y i b x5 u K' a1 pA (by omega) (by omega) dY hyu hK'
      · intro q bb yy hbb hyy
        rw [e108] at q
        refine ⟨_, by omega, Or.inr (Or.inr (Or.inl ⟨rfl, x5, bb, yy, rfl, hf, hA0, h5, by omega, ?_, rfl⟩))⟩
        have ey : yy.toNat = x7.toNat + 1 := by omega
        rw [ey, rf_sum_s]
        rw [hvu, hvu, e107, ← hDdef, ← hDdef] at hbb
        push_cast
        rcases hbb with ⟨z1, z2⟩ | ⟨z1, z2⟩
        · have : rf_r1 D x5.toNat x7.toNat = 1 := if_pos z1
          rw [this]
          omega
        · have : rf_r1 D x5.toNat x7.toNat = 0 := if_neg (by omega)
          rw [this]
          omega
      · intro q nn yy hnn hyy
        rw [e108] at q
        have ex7 : x7.toNat = (s.2.1 108 kk.2.toNat).toNat := by omega
        rw [ex7] at h6
        have h6' : x6 = ((rf_rnk D (s.2.1 108 kk.2.toNat).toNat x5.toNat : Nat) : Int) := h6
        refine ⟨_, by omega, Or.inr (Or.inl ⟨rfl, yy, rfl, hf, ⟨⟨cx_I_ua rfl rfl a1 (by omega) (by omega), cx_F_ua rfl a2, rf_f_ua a3, a4⟩, fun q => ?_, fun q => ?_, fun q hq => ?_, fun q hq => ?_⟩, by omega, rfl⟩)⟩
        · show sx_ua u.2.1 121 nn.toNat x5 118 q = _
          rw [sx_ua_ne (by decide)]
          exact a5 q
        · show sx_ua u.2.1 121 nn.toNat x5 120 q = _
          rw [sx_ua_ne (by decide)]
          exact a6 q
        · show sx_ua u.2.1 121 nn.toNat x5 121 q = _
          rw [sx_ua_same]
          dsimp only
          rw [if_neg (by omega)]
          exact a7 q hq
        · show sx_ua u.2.1 121 nn.toNat x5 121 _ = _
          rw [sx_ua_same]
          dsimp only
          by_cases c : (q : Int) = x5
          · have : q = x5.toNat := by omega
            rw [this, if_pos (by omega)]
            omega
          · have hne : rf_rnk D (s.2.1 108 kk.2.toNat).toNat q ≠ rf_rnk D (s.2.1 108 kk.2.toNat).toNat x5.toNat := fun e => by
              have := rf_rnk_inj hDin (by omega) (by omega) e
              omega
            rw [if_neg (by omega)]
            exact a8 q (by omega)
    · -- 149
      have e83 := hA.1.2.2.1 83 rfl
      have e108 : u.2.1 108 = s.2.1 108 := (hA.1.2.1.same 108 rfl).2
      have hA0 := hA
      obtain ⟨⟨a1, a2, a3, a4⟩, a5, a6, a7, a8⟩ := hA
      refine w_fresh_149 a1 (by omega) (by omega) (fun v hv => ?_)
      rw [e108, e83] at hv
      have o : ∀ q, q ≠ 83 → sx_uf u.1 66 83 v 66 q = u.1 66 q := fun q hq => by
        rw [sx_uf_if]
        exact if_neg (fun c => hq c.2)
      refine ⟨_, by omega, Or.inr (Or.inr (Or.inr (Or.inr (Or.inl ⟨rfl, rfl, ⟨cx_I_uf rfl rfl a1 (by omega) (by omega), ?_, rf_FA_OD hr hf hO r108 hDin hA0 hv, ?_, (o 71 (by decide)).trans (a3 71 rfl), (o 58 (by decide)).trans (a3 58 rfl)⟩, rfl⟩))))⟩
      · have e50 : sx_uf u.1 66 83 v 66 50 = s.1 66 50 := (o 50 (by decide)).trans (a3 50 rfl)
        have e58 : sx_uf u.1 66 83 v 66 58 = s.1 66 58 := (o 58 (by decide)).trans (a3 58 rfl)
        have e71 : sx_uf u.1 66 83 v 66 71 = s.1 66 71 := (o 71 (by decide)).trans (a3 71 rfl)
        refine ⟨⟨cx_F_uf rfl (cx_F_step a2 rfl (cx_F_refl _ _)), rf_f_uf rfl (rf_f_step a3 rfl (rf_f_refl _ _)), e50⟩, ⟨(show rf_ag 100 103 _ s u from rf_ag_F a2 rfl (rf_ag_refl _ _ _ _)), (show rf_ag 105 105 _ s u from rf_ag_F a2 rfl (rf_ag_refl _ _ _ _)), (show rf_ag 106 107 _ s u from rf_ag_F a2 rfl (rf_ag_refl _ _ _ _)), (show rf_ag 115 117 _ s u from rf_ag_F a2 rfl (rf_ag_refl _ _ _ _))⟩, Int.le_of_eq e58.symm, Int.le_of_eq e71.symm, fun q hq => ?_⟩
        show u.2.1 118 q ≠ -1
        rw [a5 q]
        by_cases c : q = kk.2.toNat
        · rw [if_pos c]
          omega
        · rw [if_neg c]
          exact hq
      · show u.2.1 118 kk.2.toNat ≠ -1
        rw [a5, if_pos rfl]
        omega
    · -- 165
      refine w_fresh_165 (PW := fun t => cx_I t ∧ cx_F [(66, 66), (122, 122)] u t ∧ rf_f [86] u t) u1 (by omega) (fun q h1 h2 K' hK' => c_r_putNumber hsL (d + 1) (by omega) 104 q u K' u1 (by omega) ⟨h1, h2⟩ (fun z t c1 c2 c3 => hK' z t ⟨c1, c2, c3⟩)) ?_
      rintro t ⟨c1, c2, c3⟩
      obtain ⟨e1, e2, e3, e4, e5⟩ := rf_WF_put c2 c3
      exact ⟨_, by omega, Or.inr (Or.inr (Or.inr (Or.inr (Or.inr (Or.inl ⟨rfl, rfl, ⟨c1, rf_WF_trans e1 u2, e2 u3, e1.2.2.2.2 _ u4, by omega, by omega⟩, rfl⟩)))))⟩
    · -- 178
      exact w_fresh_178 ⟨_, by omega, Or.inr (Or.inr (Or.inr (Or.inr (Or.inr (Or.inr (Or.inl ⟨rfl, 0, rfl, ⟨u1, u2, u3, u4, by omega, u6⟩, by omega, rfl⟩))))))⟩
    · -- 181
      have e108 : u.2.1 108 = s.2.1 108 := (u2.1.1.same 108 rfl).2
      refine w_fresh_181 (PW := fun t => cx_I t ∧ cx_F [(66, 66), (122, 122)] u t ∧ rf_f [86] u t) u1 (by omega) (by omega) (fun q => ?_) (fun q K' hK' => c_r_put hsL (d + 1) (by omega) 32 u K' u1 (by omega) (fun z t c1 c2 c3 => hK' z t ⟨c1, c2, c3⟩)) ?_
      · exact hK 0 u u1 u2 u3 (by omega) u6
      · rintro q t ⟨c1, c2, c3⟩
        rw [e108] at q
        obtain ⟨e1, e2, e3, e4, e5⟩ := rf_WF_put c2 c3
        exact ⟨_, by omega, Or.inr (Or.inr (Or.inr (Or.inr (Or.inr (Or.inr (Or.inr ⟨rfl, x5, rfl, ⟨c1, rf_WF_trans e1 u2, e2 u3, e1.2.2.2.2 _ u4, by omega, by omega⟩, by omega, rfl⟩))))))⟩
    · -- 199
      obtain ⟨hEu, hNu⟩ := rf_WF_EX u2
      have e108 : u.2.1 108 = s.2.1 108 := (u2.1.1.same 108 rfl).2
      have e61 := u2.1.2.1 61 rfl
      have hWu := rf_WW_up hW0 u1 u2 u3
      have hbu := rf_OD_bd u3 (by omega)
      obtain ⟨w1, w2⟩ := u3.2 kk.2.toNat (by omega) u4
      rw [e108] at w1 w2
      have ex : ((x5.toNat : Nat) : Int) = x5 := by omega
      have w3 := w2 x5.toNat (by omega)
      rw [ex] at w3
      obtain ⟨oq, hoq⟩ : ∃ q, q = u.2.1 121 (u.2.1 120 kk.2.toNat + x5).toNat := ⟨_, rfl⟩
      rw [← hoq] at w3
      have ku := rf_CL_up hEu u2.2.2.2.1 (Int.le_of_eq u6.symm) (rf_EG_refl s g) hM.ub k
      have kuN := ku.1.2.2.2
      have hrv : ∀ q : Nat, (q : Int) < s.2.1 108 kk.2.toNat → rf_rv1 u j q = rf_rv1 s j q := fun q hq => hEu.rv (by obtain ⟨j0, kk0, uu0, f0, n0, eA, z1, z2, z3, _⟩ := rf_CL_node k; cases eA; exact z3) (by rw [← ej]; exact hbn.1) (by rw [← ej]; omega)
      have hvu : rf_vo u y i oq.toNat = rf_look y (rf_rv1 s j oq.toNat) := by
        rw [← hrv oq.toNat (by omega)]
        unfold rf_vo rf_rv1
        rw [ej]
      obtain ⟨T, hT5, hT⟩ := hty oq.toNat (by omega)
      have hTu : rf_vb (u.1 66 58) u (rf_look y (rf_rv1 s j oq.toNat)) T := by
        rw [u6]
        exact (hEu.vb (Int.le_refl _) _ _).mpr hT
      have hT0 := hT.1
      have hdep : u.2.1 107 (rf_look y (rf_rv1 s j oq.toNat)).toNat = s.2.1 107 (rf_look y (rf_rv1 s j oq.toNat)).toNat := u2.2.1.2.2.1 107 _ (by omega) (by omega) (by omega)
      have hDq := (hDI _ (hF oq.toNat (by omega))).1
      have b104 : u.2.1 104 i.toNat = s.2.1 104 i.toNat := by rw [(u2.1.1.same 104 rfl).2]
      refine w_fresh_199 (w := rf_vo u y i oq.toNat) (PW := fun t => cx_I t ∧ rf_WF u t ∧ rf_OD t ∧ t.1 66 71 ≤ u.1 66 71 + 9 ∧ t.1 66 58 = u.1 66 58) u1 (by omega) (by omega) (by omega) ?_ ?_ ?_
      · intro q hq K' hK'
        rw [← hoq] at hq
        rw [hq]
        exact c_r_varOf hsL 100 (d + 1) (by omega) y i b oq u K' u1 pA (by omega) (by omega) dY kuN.1 hK'
      · intro K' hK'
        rw [hvu]
        exact c_r_writeVar hsL (d + 1) (by omega) w0 _ dp nb ib T u g K' hWu hTu hT5 (by rw [hdep]; exact hDq) hdp (by omega) (by omega) (fun z t f1 f2 f3 f4 f5 => hK' z t ⟨f1, f2, f3, f4, f5⟩)
      · rintro t ⟨f1, f2, f3, f4, f5⟩ yy hyy
        exact ⟨_, by omega, Or.inr (Or.inr (Or.inr (Or.inr (Or.inr (Or.inr (Or.inl ⟨rfl, yy, rfl, ⟨f1, rf_WF_trans f2 u2, f3, f2.2.2.2.2 _ u4, by omega, by omega⟩, by omega, rfl⟩))))))⟩
