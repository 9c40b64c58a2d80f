/-! ===== unifies: the text's equations have a solution, or not ===== -/
/-- one side of an equation, as it is loaded -/
def dv_s1 (tv tc : Int → rf_T) (tm : Int → Int → rf_T) (S : vx_S) (t : rf_T) (A : rf_N) : Prop := True → (vx_in S A ∧ vx_sg A ∧ (vx_ty tv tc tm S.2.2.2.2 A).1 t) ∧ (∀ z, ¬ vx_fv (vx_U S) S.2.2.2.2 z A) ∧ vx_nb A (fun _ => False) ∧ (vx_lh A ≤ 67 ∧ vx_hh A ≤ 26 ∧ vx_hz A ≤ 1024)
theorem dv_s1_sd {tv tc : Int → rf_T} {tm : Int → Int → rf_T} {S : vx_S} {t : rf_T} {A : rf_N} (h : dv_s1 tv tc tm S t A) : vx_sd tv tc tm S (fun _ => rf_b) 0 t A [] := fun _ => by
  obtain ⟨h1, h2, h3, h4⟩ := h trivial
  refine ⟨h1, fun z hz => ?_, ⟨Int.le_refl _, fun _ => ⟨List.Pairwise.nil, fun p hp => absurd hp List.not_mem_nil, fun p hp => absurd hp List.not_mem_nil⟩⟩, fun z hz => absurd hz (h2 z), vx_nb_mono (fun z hz => absurd hz List.not_mem_nil) h3⟩
  exfalso
  have hz' : (0 : Int) ≤ -1 := hz
  omega
def dv_S0 (s : sx_S) (ar : Int → Int) (AR : Nat → List Int) : vx_S := (s.1 22 2, s.1 11 6, ar, fun _ => none, AR)
/-- the text as it is loaded -/
def dv_X (tv tc : Int → rf_T) (tm : Int → Int → rf_T) (s : sx_S) (ar : Int → Int) (AR : Nat → List Int) (l : vw_L) : Prop := True → (0 ≤ s.1 22 2 ∧ s.1 22 2 ≤ 5) ∧ (∀ u, 0 ≤ ar u ∧ ar u ≤ 4) ∧ s.1 11 6 ≤ 960 ∧ (s.1 18 10 = (l.length : Int) ∧ l.length ≤ 4) ∧ ∀ (k : Nat) A B, l[k]? = some (A, B) → (dv_at s AR A (s.2.1 26 (2 * k)) ∧ dv_at s AR B (s.2.1 26 (2 * k + 1))) ∧ ∃ t, dv_s1 tv tc tm (dv_S0 s ar AR) t A ∧ dv_s1 tv tc tm (dv_S0 s ar AR) t B
def dv_Q (AR : Nat → List Int) (l : vw_L) (th : Int → rf_N) : Prop := ∀ q ∈ l, vx_val th AR q.1 (dv_lk []) 0 = vx_val th AR q.2 (dv_lk []) 0
/-- the equations have a solution -/
def dv_sat (n0 : Int) (ar : Int → Int) (Qs : (Int → rf_N) → Prop) : Prop := ∃ th, vx_gd th ∧ (∀ u, 0 ≤ u → u < n0 → vx_sc (th u) (ar u)) ∧ Qs th
def dv_r0 (l : vw_L) : List dv_E := l.map (fun q => ((q.1, []), (q.2, []), 0, 0))
theorem vx_sm_c {f : Int → Nat} {c : Nat} (h : ∀ u, f u ≤ c) : ∀ n : Nat, vx_sm f n ≤ c * n
  | 0 => Nat.zero_le _
  | n + 1 => by
    have := vx_sm_c h n
    have := h (n : Int)
    rw [vx_sm_s, Nat.mul_succ]
    omega
theorem dv_CT0 {s : sx_S} {ar : Int → Int} {AR : Nat → List Int} (h0 : 0 ≤ s.1 22 2 ∧ s.1 22 2 ≤ 5) (ha : ∀ u, 0 ≤ ar u ∧ ar u ≤ 4) (hn : s.1 11 6 ≤ 960) : vx_CT (dv_S0 s ar AR) := fun _ => by
  have op : ∀ u, vx_op (dv_S0 s ar AR) u = 1 ∧ vx_rw (dv_S0 s ar AR) u = 0 := fun u => vx_op_1 rfl
  have aa : ∀ u, vx_aa (dv_S0 s ar AR) u ≤ 4 := fun u => by
    have := ha u
    show (ar u).toNat ≤ 4
    omega
  have n5 : (dv_S0 s ar AR).1.toNat ≤ 5 := by
    show (s.1 22 2).toNat ≤ 5
    omega
  have b1 := vx_sm_c (f := vx_rw (dv_S0 s ar AR)) (c := 0) (fun u => by rw [(op u).2]; exact Nat.le_refl _) (dv_S0 s ar AR).1.toNat
  have b2 := vx_sm_c (f := vx_op (dv_S0 s ar AR)) (c := 1) (fun u => by rw [(op u).1]; exact Nat.le_refl _) (dv_S0 s ar AR).1.toNat
  have b3 := vx_sm_c (f := vx_aa (dv_S0 s ar AR)) (c := 4) aa (dv_S0 s ar AR).1.toNat
  have sm : ∀ a, a ≤ 4 → a * (a - 1) / 2 ≤ 6 ∧ a * (a + 1) / 2 ≤ 10 := by decide
  have b4 := vx_sm_c (f := fun u => vx_op (dv_S0 s ar AR) u * (vx_aa (dv_S0 s ar AR) u * (vx_aa (dv_S0 s ar AR) u - 1) / 2)) (c := 6) (fun u => by
    try dsimp only
    rw [(op u).1, Nat.one_mul]
    exact (sm _ (aa u)).1) (dv_S0 s ar AR).1.toNat
  have b5 := vx_sm_c (f := fun u => vx_op (dv_S0 s ar AR) u * (vx_aa (dv_S0 s ar AR) u * (vx_aa (dv_S0 s ar AR) u + 1) / 2)) (c := 10) (fun u => by
    try dsimp only
    rw [(op u).1, Nat.one_mul]
    exact (sm _ (aa u)).2) (dv_S0 s ar AR).1.toNat
  have b6 := vx_sm_c (f := fun u => vx_op (dv_S0 s ar AR) u * vx_aa (dv_S0 s ar AR) u) (c := 4) (fun u => by
    try dsimp only
    rw [(op u).1, Nat.one_mul]
    exact aa u) (dv_S0 s ar AR).1.toNat
  have e1 : (dv_S0 s ar AR).1 = s.1 22 2 := rfl
  have e2 : (dv_S0 s ar AR).2.1 = s.1 11 6 := rfl
  have e3 : (dv_S0 s ar AR).1 ≤ 5 ∧ (dv_S0 s ar AR).2.1 ≤ 960 := ⟨by rw [e1]; omega, by rw [e2]; omega⟩
  exact ⟨(by rw [e1]; omega), (by omega), (by omega), (by omega), (by omega), fun u _ _ => ha u, fun u B e h => (by cases h)⟩
theorem dv_es0 {tv tc : Int → rf_T} {tm : Int → Int → rf_T} {S : vx_S} : ∀ {l : vw_L}, l.length ≤ 4 → (∀ q ∈ l, ∃ t, dv_s1 tv tc tm S t q.1 ∧ dv_s1 tv tc tm S t q.2) → dv_es tv tc tm S (dv_r0 l)
  | [], _, _ => trivial
  | q :: l, hl, h => by
    obtain ⟨t, h1, h2⟩ := h q List.mem_cons_self
    rw [List.length_cons] at hl
    obtain ⟨_, _, _, a1, a2, a3⟩ := h1 trivial
    obtain ⟨_, _, _, b1, b2, b3⟩ := h2 trivial
    refine ⟨⟨fun _ => ⟨_, t, dv_s1_sd h1, dv_s1_sd h2⟩, fun _ => ⟨[], [], ⟨vx_wu_nil _ _, vx_wu_nil _ _⟩, ⟨a1, a2, b1, b2, a3, b3⟩, ?_, ?_, ?_⟩⟩, dv_es0 (by omega) (fun q hq => h q (List.mem_cons_of_mem _ hq))⟩
    · show (0 : Int) + (vx_lh q.1 : Int) + (vx_lh q.2 : Int) ≤ _
      omega
    · show (0 : Int) + (vx_lh q.1 : Int) ≤ _
      omega
    · show (dv_r0 l).length + 3 * vx_hh q.1 ≤ _
      unfold dv_r0
      rw [List.length_map]
      omega
theorem dv_Q_ag {AR : Nat → List Int} {l : vw_L} {n0 : Int} (h : ∀ q ∈ l, (∀ m, vx_mt m q.1 → 0 ≤ m ∧ m < n0) ∧ ∀ m, vx_mt m q.2 → 0 ≤ m ∧ m < n0) : ∀ th th', vx_ag n0 th th' → dv_Q AR l th → dv_Q AR l th' := fun th th' ha hQ q hq => by
  have e1 : vx_val th AR q.1 (dv_lk []) 0 = vx_val th' AR q.1 (dv_lk []) 0 := vx_val_th (fun m hm => by
    have := (h q hq).1 m hm
    exact (ha m this.1 this.2).symm) (fun _ _ => rfl)
  have e2 : vx_val th AR q.2 (dv_lk []) 0 = vx_val th' AR q.2 (dv_lk []) 0 := vx_val_th (fun m hm => by
    have := (h q hq).2 m hm
    exact (ha m this.1 this.2).symm) (fun _ _ => rfl)
  rw [← e1, ← e2]
  exact hQ q hq
/-- the first state -/
theorem dv_G0 {tv tc : Int → rf_T} {tm : Int → Int → rf_T} {s u : sx_S} {ar : Int → Int} {AR : Nat → List Int} {l : vw_L} (hX : dv_X tv tc tm s ar AR l) (hI : cx_I u) (hF : cx_F [(29, 29), (33, 35), (39, 45)] s u) (h33 : u.1 33 6 = s.1 22 2) (h34 : ∀ i : Nat, i < 32 → u.2.1 34 i = -1) (h29 : u.1 29 3 = 0) (h39 : u.1 39 6 = (l.length : Int)) (hps : dv_ps u AR 0 (dv_r0 l)) : dv_G tv tc (s.1 22 2) (dv_Q AR l) u (dv_S0 s ar AR) (fun _ => []) tm [] (dv_r0 l) := fun _ => by
  obtain ⟨x1, x2, x3, ⟨x4, x5⟩, x6⟩ := hX trivial
  have x6' : ∀ q ∈ l, ∃ t, dv_s1 tv tc tm (dv_S0 s ar AR) t q.1 ∧ dv_s1 tv tc tm (dv_S0 s ar AR) t q.2 := fun q hq => by
    obtain ⟨i, hi, e⟩ := List.getElem_of_mem hq
    exact (x6 i q.1 q.2 (by rw [List.getElem?_eq_getElem hi, e])).2
  have nb : ∀ v, (dv_S0 s ar AR).2.2.2.1 v = none := fun _ => rfl
  have nc : ∀ {v : Int} {p : rf_N × (Int → Int)}, (dv_S0 s ar AR).2.2.2.1 v ≠ some p := fun {v p} h => by
    rw [nb] at h
    cases h
  have hM : dv_M u (dv_S0 s ar AR) (fun _ => []) := fun _ => by
    refine ⟨⟨h33, (by rw [(hF.same 11 rfl).1]; rfl), (by show s.1 22 2 ≤ 32; omega), fun v _ hv => h34 v hv⟩, fun v v0 v1 => ⟨(x2 v).2, Or.inl ⟨rfl, h34 v.toNat ?_⟩⟩⟩
    have v1' : v < s.1 22 2 := v1
    omega
  have hT : vx_TS tv tc tm (dv_S0 s ar AR) (fun _ => []) := fun _ => ⟨⟨fun v B e h => absurd h nc, ⟨fun v B e h => absurd h nc, fun v => (x2 v).1⟩, fun v B e z h => absurd h nc, fun _ => 0, fun v B e m h => absurd h nc⟩, fun v B e h => absurd h nc⟩
  refine ⟨hI, hM, hT, dv_CT0 x1 x2 x3, ⟨by rw [h29]; exact hps, ?_⟩, dv_es0 x5 x6', ?_⟩
  · rw [h39]
    unfold dv_r0
    rw [List.length_map]
  · have el : (dv_r0 l).map dv_pe = l.map (fun q => ((q.1, dv_lk []), (q.2, dv_lk []), 0)) := by
      unfold dv_r0
      rw [List.map_map]
      rfl
    rw [el]
    refine ⟨fun th _ hp q hq => hp _ (List.mem_map_of_mem hq), fun th _ hQ p hp => ?_, Int.le_refl _, fun th0 g0 s0 q0 => ⟨th0, ⟨g0, s0, fun v B e h => absurd h nc⟩, fun _ _ _ => rfl⟩⟩
    obtain ⟨q, hq, rfl⟩ := List.mem_map.mp hp
    exact hQ q hq
theorem c_dv_un {tv tc : Int → rf_T} {tm : Int → Int → rf_T} {sL : Nat} {sx : Nat → Int32} (hsL : sL ≤ 3072) (d : Nat) (hd : 12 ≤ d) : ∀ (ar : Int → Int) (AR : Nat → List Int) (l : vw_L) (s : sx_S) (K : Int → sx_S → Prop), cx_I s → dv_X tv tc tm s ar AR l → (∀ S th, vx_le (dv_S0 s ar AR) S → vx_So S th → dv_Q AR l th → vw_B l S → (∀ u B e, S.2.2.2.1 u = some (B, e) → ¬ vx_isl B) → vw_F S l < 1000000) → (∀ t, ¬ dv_sat (s.1 22 2) ar (dv_Q AR l) → K 0 t) → (∀ t, dv_sat (s.1 22 2) ar (dv_Q AR l) → K 1 t) → sx_C sL sx d 70 [.inr (.inl 38), .inr (.inl 18)] s K := by
  intro ar AR l s K hI hX hcap hK0 hK1
  obtain ⟨x1, x2, x3, ⟨x4, x5⟩, x6⟩ := hX trivial
  have x6' : ∀ q ∈ l, ∃ t, dv_s1 tv tc tm (dv_S0 s ar AR) t q.1 ∧ dv_s1 tv tc tm (dv_S0 s ar AR) t q.2 := fun q hq => by
    obtain ⟨i, hi, e⟩ := List.getElem_of_mem hq
    exact (x6 i q.1 q.2 (by rw [List.getElem?_eq_getElem hi, e])).2
  have hmt : ∀ q ∈ l, (∀ m, vx_mt m q.1 → 0 ≤ m ∧ m < s.1 22 2) ∧ ∀ m, vx_mt m q.2 → 0 ≤ m ∧ m < s.1 22 2 := fun q hq => by
    obtain ⟨t, h1, h2⟩ := x6' q hq
    exact ⟨(h1 trivial).1.1.1, (h2 trivial).1.1.1⟩
  have hQ := dv_Q_ag (AR := AR) hmt
  have hM : ∀ m C, vw_M l C → vx_mt m C → m < s.1 22 2 := fun m C ⟨q, hq, h⟩ hm => by
    rcases h with h | h
    · exact ((hmt q hq).1 m (vw_su_mt hm h)).2
    · exact ((hmt q hq).2 m (vw_su_mt hm h)).2
  obtain ⟨d, rfl⟩ : ∃ e, d = e + 2 := ⟨d - 2, by omega⟩
  refine sx_methL (wr := true) (n := 400) (n' := 400) (stop := [(33, [0, 1, 2]), (70, [0, 2, 3])]) (fun nn pc ls u => (pc = 33 ∧ ∃ x2 : Int, ls = [(0, .inr (.inl 38)), (1, .inr (.inl 18)), (2, .inl x2)] ∧ (-1 ≤ x2 ∧ x2 < s.1 18 10) ∧ cx_I u ∧ cx_F [(29, 29), (33, 35), (39, 45)] s u ∧ u.1 33 6 = s.1 22 2 ∧ (∀ i : Nat, i < 32 → u.2.1 34 i = -1) ∧ u.1 29 3 = 0 ∧ u.1 39 6 = ((l.drop (x2 + 1).toNat).length : Int) ∧ dv_ps u AR 0 (dv_r0 (l.drop (x2 + 1).toNat)) ∧ nn = 2000000 + (x2 + 1).toNat) ∨ (pc = 70 ∧ ∃ (x2 : Int) (x3 : Nat), ls = [(0, .inr (.inl 38)), (2, .inl x2), (3, .inl (x3 : Int))] ∧ x3 ≤ 1000000 ∧ nn = 1000001 - x3 ∧ ((x2 = 0 ∧ cx_I u ∧ vx_NO (s.1 22 2) (dv_Q AR l) (dv_S0 s ar AR)) ∨ (x2 = 1 ∧ ∃ S PR tm' r, dv_G tv tc (s.1 22 2) (dv_Q AR l) u S PR tm' [] r ∧ vx_le (dv_S0 s ar AR) S ∧ vw_TI l (s.1 22 2).toNat (dv_Q AR l) x3 S r)))) hsL (e := eX6_unifies) rfl ?_ ?_
  · refine w_dv_un (c_dv_unk hsL (d + 1) (by omega)) (c_dv_eqs hsL (d + 1) (by omega)) (c_dv_rel hsL (d + 1) (by omega)) (c_dv_pclear39 hsL (d + 1) (by omega)) (c_dv_cl hsL (d + 1) (by omega)) hI (fun t t1 t2 t3 t4 t5 t6 t7 => ⟨_, Or.inl ⟨rfl, s.1 18 10 - 1, rfl, by omega, t1, cx_F_step t2 rfl (cx_F_refl _ _), t3, t4, t6, ?_, ?_, rfl⟩⟩)
    · rw [t7, List.length_drop]
      omega
    · rw [List.drop_eq_nil_of_le (by omega)]
      trivial
  · rintro nn pc ls u (⟨rfl, y2, rfl, j1, j2, j3, j4, j5, j6, j7, j8, rfl⟩ | ⟨rfl, y2, y3, rfl, i1, rfl, i2⟩)
    · have e18 : u.1 18 = s.1 18 := (j3.same 18 rfl).1
      have e26 : u.2.1 26 = s.2.1 26 := (j3.same 26 rfl).2
      have len : ((l.drop (y2 + 1).toNat).length : Int) = s.1 18 10 - (y2 + 1) := by
        rw [List.length_drop]
        omega
      have a26 : ∀ i, -2147483648 ≤ u.2.1 26 i ∧ u.2.1 26 i ≤ 2147483647 := fun i => by
        have := j2.arr 26 (by decide) rfl i
        omega
      refine w_dv_un33 (c_dv_rt hsL (d + 1) (by omega)) (fun a0 a1 a2 a3 a4 a5 s' R => c_dv_pair39 hsL (d + 1) (by omega) a0 a1 a2 a3 a4 a5 s' R) j2 (by rw [e18]; exact j1) (by omega) (fun _ => ⟨a26 _, a26 _⟩) (fun hx => ?_) (fun hx t t1 t2 t3 => ?_)
      · refine ⟨1000001, by omega, Or.inr ⟨rfl, 1, 0, rfl, by omega, rfl, Or.inr ⟨rfl, dv_S0 s ar AR, fun _ => [], tm, dv_r0 l, ?_, vx_le_refl _, ?_⟩⟩⟩
        · have ed : l.drop (y2 + 1).toNat = l := by
            rw [show (y2 + 1).toNat = 0 by omega]
            rfl
          rw [ed] at j7 j8
          exact dv_G0 hX j2 j3 j4 j5 j6 j7 j8
        · refine vw_TI_0 (by omega) ?_ (fun q hq => ?_) (fun _ => rfl)
          · unfold dv_r0
            rw [List.map_map]
            exact List.map_id' l
          · obtain ⟨t, h1, h2⟩ := x6' q hq
            exact ⟨(h1 trivial).1.2.1, (h2 trivial).1.2.1⟩
      · obtain ⟨p1, p2, p3, p4, p5, p6, p7, p8⟩ := t3 trivial
        have hy : y2.toNat < l.length := by omega
        have ed : l.drop (y2 - 1 + 1).toNat = l[y2.toNat] :: l.drop (y2 + 1).toNat := by
          rw [show (y2 - 1 + 1).toNat = y2.toNat by omega, show (y2 + 1).toNat = y2.toNat + 1 by omega]
          exact List.drop_eq_getElem_cons hy
        obtain ⟨⟨w1, w2⟩, _⟩ := x6 y2.toNat (l[y2.toNat]).1 (l[y2.toNat]).2 (by rw [List.getElem?_eq_getElem hy])
        have nf : dv_nf (s.1 11 6) AR AR s t := dv_nf_F _ (cx_F_step t2 rfl j3) (by decide)
        have nf' : dv_nf (u.1 11 6) AR AR u t := dv_nf_F _ t2 (by decide)
        have rl : (dv_r0 (l.drop (y2 + 1).toNat)).length = (u.1 39 6).toNat := by
          unfold dv_r0
          rw [List.length_map]
          omega
        refine ⟨2000000 + (y2 - 1 + 1).toNat, by omega, Or.inl ⟨rfl, y2 - 1, rfl, by omega, t1, cx_F_step t2 rfl j3, by rw [(t2.same 33 rfl).1]; exact j4, fun i hi => by rw [(t2.same 34 rfl).2]; exact j5 i hi, by rw [(t2.same 29 rfl).1]; exact j6, ?_, ?_, rfl⟩⟩
        · rw [ed, List.length_cons, p1, j7]
          omega
        · rw [ed]
          show dv_ps t AR 0 (((l[y2.toNat].1, []), (l[y2.toNat].2, []), 0, 0) :: dv_r0 (l.drop (y2 + 1).toNat))
          refine ⟨⟨Int.le_refl _, Int.le_refl _⟩, ⟨?_, ?_⟩, ⟨?_, ?_⟩, ⟨?_, ?_⟩, ?_⟩
          · rw [rl]
            show dv_at t AR _ (t.2.1 (39 + 1) _)
            rw [p3]
            show dv_at t AR _ (u.2.1 26 (2 * y2 + 0).toNat)
            rw [e26, show (2 * y2 + 0).toNat = 2 * y2.toNat by omega]
            exact dv_at_fr (Int.le_refl _) nf w1
          · rw [rl]
            show t.2.1 (39 + 2) _ = -1
            exact p4
          · rw [rl]
            show dv_at t AR _ (t.2.1 (39 + 3) _)
            rw [p5]
            show dv_at t AR _ (u.2.1 26 (2 * y2 + 1).toNat)
            rw [e26, show (2 * y2 + 1).toNat = 2 * y2.toNat + 1 by omega]
            exact dv_at_fr (Int.le_refl _) nf w2
          · rw [rl]
            show t.2.1 (39 + 4) _ = -1
            exact p6
          · rw [rl]
            exact p7
          · rw [rl]
            exact p8
          · refine dv_ps_fr (Int.le_refl _) nf' (fun i hi => ?_) (fun i hi => ?_) j8
            · have hi' : (i : Int) < 0 := hi
              omega
            · obtain ⟨z1, z2, z3, z4, z5, z6⟩ := p2 i (by omega)
              exact ⟨z1, z2, z3, z4, z5, z6⟩
    · have hIu : cx_I u := by
        rcases i2 with ⟨_, h, _⟩ | ⟨_, S, PR, tm', r, h, _⟩
        · exact h
        · exact (h trivial).1
      have hno : vx_NO (s.1 22 2) (dv_Q AR l) (dv_S0 s ar AR) → ¬ dv_sat (s.1 22 2) ar (dv_Q AR l) := fun hn ⟨th, g, sc, q⟩ => hn th g sc q
      refine w_dv_un70 (G := fun z t => (z = 0 ∧ cx_I t ∧ vx_NO (s.1 22 2) (dv_Q AR l) (dv_S0 s ar AR)) ∨ (z = 1 ∧ ∃ S PR tm' r, dv_G tv tc (s.1 22 2) (dv_Q AR l) t S PR tm' [] r ∧ vx_le (dv_S0 s ar AR) S ∧ vw_TI l (s.1 22 2).toNat (dv_Q AR l) (y3 + 1) S r)) (c_dv_pempty39 hsL (d + 1) (by omega)) (fun hx hne K' hK' => ?_) (fun z t ht => ?_) hIu ?_ (by omega) (fun hx => ?_) (fun hx h0 => ?_) (fun hx h0 h3 => ?_) (fun hx h0 h3 z t ht => ?_)
      · rcases i2 with ⟨e, _⟩ | ⟨_, S, PR, tm', r, hG, hle, hTI⟩
        · omega
        · obtain ⟨g1, g2, g3, g4, ⟨g5, g6⟩, g7, g8⟩ := hG trivial
          obtain ⟨⟨W, B1, Sc, rk, hrk⟩, _⟩ := g3 trivial
          cases r with
          | nil => exact absurd g6 hne
          | cons p r =>
            exact c_dv_st hsL (d + 1) (by omega) hQ S PR tm' p r u K' hG (fun t t1 t2 => hK' 0 t (Or.inl ⟨rfl, t1, vx_NO_le hle (Int.le_refl _) t2⟩)) (fun t S' PR' tm'' r' t1 t2 t3 => hK' 1 t (Or.inr ⟨rfl, S', PR', tm'', r', t2, vx_le_trans hle t1, vw_TI_st hM x1.1 W t1 (fun th hS hq => g8.2.1 th hS hq _ List.mem_cons_self) hTI t3⟩))
      · rcases ht with ⟨q, _⟩ | ⟨q, _⟩
        · exact Or.inl q
        · exact Or.inr q
      · rcases i2 with ⟨q, _⟩ | ⟨q, _⟩
        · exact Or.inl q
        · exact Or.inr q
      · rcases i2 with ⟨_, _, q⟩ | ⟨q, _⟩
        · exact hK0 u (hno q)
        · omega
      · rcases i2 with ⟨q, _⟩ | ⟨_, S, PR, tm', r, hG, hle, hTI⟩
        · omega
        · obtain ⟨g1, g2, g3, g4, ⟨g5, g6⟩, g7, g8⟩ := hG trivial
          obtain ⟨⟨W, B1, Sc, rk, hrk⟩, _⟩ := g3 trivial
          have er : r = [] := List.length_eq_zero_iff.mp (by omega)
          subst er
          obtain ⟨th, hS, hq⟩ := vx_J_yes g8 W B1 hrk Sc
          refine hK1 u ⟨th, hS.1, fun v v0 v1 => ?_, hq⟩
          have h1 := hS.2.1 v v0 (by have q1 : s.1 22 2 ≤ S.1 := hle.1.1; omega)
          have h2 : S.2.2.1 v = ar v := hle.2.1 v v0 v1
          rw [h2] at h1
          exact h1
      · rcases i2 with ⟨q, _⟩ | ⟨_, S, PR, tm', r, hG, hle, hTI⟩
        · omega
        · obtain ⟨g1, g2, g3, g4, ⟨g5, g6⟩, g7, g8⟩ := hG trivial
          refine hK0 u (fun ⟨th0, gd, sc, q0⟩ => ?_)
          obtain ⟨th, hS, ha⟩ := g8.2.2.2 th0 gd (fun v v0 v1 => by
            have h2 : S.2.2.1 v = ar v := hle.2.1 v v0 v1
            rw [h2]
            exact sc v v0 v1) q0
          have hq := hQ _ _ ha q0
          obtain ⟨_, hB, hT⟩ := hTI trivial
          obtain ⟨f, _, f2⟩ := hT S th (vx_le_refl S) hS hq
          have hnl : ∀ v B e, S.2.2.2.1 v = some (B, e) → ¬ vx_isl B := fun v B e hb ⟨j, y, G, eB⟩ => by
            obtain ⟨_, g3b⟩ := g3 trivial
            obtain ⟨_, ⟨_, ty⟩, _⟩ := g3b v B e hb
            rw [eB] at ty
            rcases ty with ⟨_, B', q, _⟩ | ⟨q, _⟩ | ⟨q, _⟩ | ⟨q, _⟩
            · cases q
            · exact absurd q (by show ¬ ((0 : Int) = 1); decide)
            · exact absurd q (by show ¬ ((0 : Int) = 2); decide)
            · exact absurd q vx_03
          have := hcap S th hle hS hq hB hnl
          omega
      · refine ⟨1000001 - (y3 + 1), by omega, Or.inr ⟨rfl, z, y3 + 1, rfl, by omega, rfl, ?_⟩⟩
        rcases ht with ⟨q1, q2, q3⟩ | ⟨q1, S, PR, tm', r, q2, q3, q4⟩
        · exact Or.inl ⟨q1, q2, q3⟩
        · exact Or.inr ⟨q1, S, PR, tm', r, q2, q3, q4⟩
