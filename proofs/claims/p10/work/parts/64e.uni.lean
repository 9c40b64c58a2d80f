/-! ===== unifies: the text's equations have a solution, or not ===== -/
/-- one side of an equation, as it is loaded -/
def dv_s1 (tv tc : Int → rf_T) (tm : Int → Int → rf_T) (S : vx_S) (t : rf_T) (A : rf_N) : Prop := True → (vx_in S A ∧ vx_sg A ∧ (vx_ty tv tc tm S.2.2.2.2 A).1 t) ∧ (∀ z, ¬ vx_fv (vx_U S) S.2.2.2.2 z A) ∧ vx_nb A (fun _ => False) ∧ (vx_lh A ≤ 67 ∧ vx_hh A ≤ 26 ∧ vx_hz A ≤ 1024)
theorem dv_s1_sd {tv tc : Int → rf_T} {tm : Int → Int → rf_T} {S : vx_S} {t : rf_T} {A : rf_N} (h : dv_s1 tv tc tm S t A) : vx_sd tv tc tm S (fun _ => rf_b) 0 t A [] := fun _ => by
  obtain ⟨h1, h2, h3, h4⟩ := h trivial
  refine ⟨h1, fun z hz => ?_, ⟨Int.le_refl _, fun _ => ⟨List.Pairwise.nil, fun p hp => absurd hp List.not_mem_nil, fun p hp => absurd hp List.not_mem_nil⟩⟩, fun z hz => absurd hz (h2 z), vx_nb_mono (fun z hz => absurd hz List.not_mem_nil) h3⟩
  exfalso
  have hz' : (0 : Int) ≤ -1 := hz
  omega
def dv_S0 (s : sx_S) (ar : Int → Int) (AR : Nat → List Int) : vx_S := (s.1 22 2, s.1 11 6, ar, fun _ => none, AR)
/-- the text as it is loaded -/
def dv_X (tv tc : Int → rf_T) (tm : Int → Int → rf_T) (s : sx_S) (ar : Int → Int) (AR : Nat → List Int) (l : vw_L) : Prop := True → (0 ≤ s.1 22 2 ∧ s.1 22 2 ≤ 5) ∧ (∀ u, 0 ≤ ar u ∧ ar u ≤ 4) ∧ s.1 11 6 ≤ 960 ∧ (s.1 18 10 = (l.length : Int) ∧ l.length ≤ 4) ∧ ∀ (k : Nat) A B, l[k]? = some (A, B) → (dv_at s AR A (s.2.1 26 (2 * k)) ∧ dv_at s AR B (s.2.1 26 (2 * k + 1))) ∧ ∃ t, dv_s1 tv tc tm (dv_S0 s ar AR) t A ∧ dv_s1 tv tc tm (dv_S0 s ar AR) t B
def dv_Q (AR : Nat → List Int) (l : vw_L) (th : Int → rf_N) : Prop := ∀ q ∈ l, vx_val th AR q.1 (dv_lk []) 0 = vx_val th AR q.2 (dv_lk []) 0
/-- the equations have a solution -/
def dv_sat (n0 : Int) (ar : Int → Int) (Qs : (Int → rf_N) → Prop) : Prop := ∃ th, vx_gd th ∧ (∀ u, 0 ≤ u → u < n0 → vx_sc (th u) (ar u)) ∧ Qs th
def dv_r0 (l : vw_L) : List dv_E := l.map (fun q => ((q.1, []), (q.2, []), 0, 0))
theorem vx_sm_c {f : Int → Nat} {c : Nat} (h : ∀ u, f u ≤ c) : ∀ n : Nat, vx_sm f n ≤ c * n
  | 0 => Nat.zero_le _
  | n + 1 => by
    have := vx_sm_c h n
    have := h (n : Int)
    rw [vx_sm_s, Nat.mul_succ]
    omega
theorem dv_CT0 {s : sx_S} {ar : Int → Int} {AR : Nat → List Int} (h0 : 0 ≤ s.1 22 2 ∧ s.1 22 2 ≤ 5) (ha : ∀ u, 0 ≤ ar u ∧ ar u ≤ 4) (hn : s.1 11 6 ≤ 960) : vx_CT (dv_S0 s ar AR) := fun _ => by
  have op : ∀ u, vx_op (dv_S0 s ar AR) u = 1 ∧ vx_rw (dv_S0 s ar AR) u = 0 := fun u => vx_op_1 rfl
  have aa : ∀ u, vx_aa (dv_S0 s ar AR) u ≤ 4 := fun u => by
    have := ha u
    show (ar u).toNat ≤ 4
    omega
  have n5 : (dv_S0 s ar AR).1.toNat ≤ 5 := by
    show (s.1 22 2).toNat ≤ 5
    omega
  have b1 := vx_sm_c (f := vx_rw (dv_S0 s ar AR)) (c := 0) (fun u => by rw [(op u).2]; exact Nat.le_refl _) (dv_S0 s ar AR).1.toNat
  have b2 := vx_sm_c (f := vx_op (dv_S0 s ar AR)) (c := 1) (fun u => by rw [(op u).1]; exact Nat.le_refl _) (dv_S0 s ar AR).1.toNat
  have b3 := vx_sm_c (f := vx_aa (dv_S0 s ar AR)) (c := 4) aa (dv_S0 s ar AR).1.toNat
  have sm : ∀ a, a ≤ 4 → a * (a - 1) / 2 ≤ 6 ∧ a * (a + 1) / 2 ≤ 10 := by decide
  have b4 := vx_sm_c (f := fun u => vx_op (dv_S0 s ar AR) u * (vx_aa (dv_S0 s ar AR) u * (vx_aa (dv_S0 s ar AR) u - 1) / 2)) (c := 6) (fun u => by
    try dsimp only
    rw [(op u).1, Nat.one_mul]
    exact (sm _ (aa u)).1) (dv_S0 s ar AR).1.toNat
  have b5 := vx_sm_c (f := fun u => vx_op (dv_S0 s ar AR) u * (vx_aa (dv_S0 s ar AR) u * (vx_aa (dv_S0 s ar AR) u + 1) / 2)) (c := 10) (fun u => by
    try dsimp only
    rw [(op u).1, Nat.one_mul]
    exact (sm _ (aa u)).2) (dv_S0 s ar AR).1.toNat
  have b6 := vx_sm_c (f := fun u => vx_op (dv_S0 s ar AR) u * vx_aa (dv_S0 s ar AR) u) (c := 4) (fun u => by
    try dsimp only
    rw [(op u).1, Nat.one_mul]
    exact aa u) (dv_S0 s ar AR).1.toNat
  have e1 : (dv_S0 s ar AR).1 = s.1 22 2 := rfl
  have e2 : (dv_S0 s ar AR).2.1 = s.1 11 6 := rfl
  have e3 : (dv_S0 s ar AR).1 ≤ 5 ∧ (dv_S0 s ar AR).2.1 ≤ 960 := ⟨by rw [e1]; omega, by rw [e2]; omega⟩
  exact ⟨(by rw [e1]; omega), (by omega), (by omega), (by omega), (by omega), fun u _ _ => ha u, fun u B e h => (by cases h)⟩
theorem dv_es0 {tv tc : Int → rf_T} {tm : Int → Int → rf_T} {S : vx_S} : ∀ {l : vw_L}, l.length ≤ 4 → (∀ q ∈ l, ∃ t, dv_s1 tv tc tm S t q.1 ∧ dv_s1 tv tc tm S t q.2) → dv_es tv tc tm S (dv_r0 l)
  | [], _, _ => trivial
  | q :: l, hl, h => by
    obtain ⟨t, h1, h2⟩ := h q List.mem_cons_self
    rw [List.length_cons] at hl
    obtain ⟨_, _, _, a1, a2, a3⟩ := h1 trivial
    obtain ⟨_, _, _, b1, b2, b3⟩ := h2 trivial
    refine ⟨⟨fun _ => ⟨_, t, dv_s1_sd h1, dv_s1_sd h2⟩, fun _ => ⟨[], [], ⟨vx_wu_nil _ _, vx_wu_nil _ _⟩, ⟨a1, a2, b1, b2, a3, b3⟩, ?_, ?_, ?_⟩⟩, dv_es0 (by omega) (fun q hq => h q (List.mem_cons_of_mem _ hq))⟩
    · show (0 : Int) + (vx_lh q.1 : Int) + (vx_lh q.2 : Int) ≤ _
      omega
    · show (0 : Int) + (vx_lh q.1 : Int) ≤ _
      omega
    · show (dv_r0 l).length + 3 * vx_hh q.1 ≤ _
      unfold dv_r0
      rw [List.length_map]
      omega
theorem dv_Q_ag {AR : Nat → List Int} {l : vw_L} {n0 : Int} (h : ∀ q ∈ l, (∀ m, vx_mt m q.1 → 0 ≤ m ∧ m < n0) ∧ ∀ m, vx_mt m q.2 → 0 ≤ m ∧ m < n0) : ∀ th th', vx_ag n0 th th' → dv_Q AR l th → dv_Q AR l th' := fun th th' ha hQ q hq => by
  have e1 : vx_val th AR q.1 (dv_lk []) 0 = vx_val th' AR q.1 (dv_lk []) 0 := vx_val_th (fun m hm => by
    have := (h q hq).1 m hm
    exact (ha m this.1 this.2).symm) (fun _ _ => rfl)
  have e2 : vx_val th AR q.2 (dv_lk []) 0 = vx_val th' AR q.2 (dv_lk []) 0 := vx_val_th (fun m hm => by
    have := (h q hq).2 m hm
    exact (ha m this.1 this.2).symm) (fun _ _ => rfl)
  rw [← e1, ← e2]
  exact hQ q hq
/-- the first state -/
theorem dv_G0 {tv tc : Int → rf_T} {tm : Int → Int → rf_T} {s u : sx_S} {ar : Int → Int} {AR : Nat → List Int} {l : vw_L} (hX : dv_X tv tc tm s ar AR l) (hI : cx_I u) (hF : cx_F [(29, 29), (33, 35), (39, 45)] s u) (h33 : u.1 33 6 = s.1 22 2) (h34 : ∀ i : Nat, i < 32 → u.2.1 34 i = -1) (h29 : u.1 29 3 = 0) (h39 : u.1 39 6 = (l.length : Int)) (hps : dv_ps u AR 0 (dv_r0 l)) : dv_G tv tc (s.1 22 2) (dv_Q AR l) u (dv_S0 s ar AR) (fun _ => []) tm [] (dv_r0 l) := fun _ => by
  obtain ⟨x1, x2, x3, ⟨x4, x5⟩, x6⟩ := hX trivial
  have x6' : ∀ q ∈ l, ∃ t, dv_s1 tv tc tm (dv_S0 s ar AR) t q.1 ∧ dv_s1 tv tc tm (dv_S0 s ar AR) t q.2 := fun q hq => by
    obtain ⟨i, hi, e⟩ := List.getElem_of_mem hq
    exact (x6 i q.1 q.2 (by rw [List.getElem?_eq_getElem hi, e])).2
  have nb : ∀ v, (dv_S0 s ar AR).2.2.2.1 v = none := fun _ => rfl
  have nc : ∀ {v : Int} {p : rf_N × (Int → Int)}, (dv_S0 s ar AR).2.2.2.1 v ≠ some p := fun {v p} h => by
    rw [nb] at h
    cases h
  have hM : dv_M u (dv_S0 s ar AR) (fun _ => []) := fun _ => by
    refine ⟨⟨h33, (by rw [(hF.same 11 rfl).1]; rfl), (by show s.1 22 2 ≤ 32; omega), fun v _ hv => h34 v hv⟩, fun v v0 v1 => ⟨(x2 v).2, Or.inl ⟨rfl, h34 v.toNat ?_⟩⟩⟩
    have v1' : v < s.1 22 2 := v1
    omega
  have hT : vx_TS tv tc tm (dv_S0 s ar AR) (fun _ => []) := fun _ => ⟨⟨fun v B e h => absurd h nc, ⟨fun v B e h => absurd h nc, fun v => (x2 v).1⟩, fun v B e z h => absurd h nc, fun _ => 0, fun v B e m h => absurd h nc⟩, fun v B e h => absurd h nc⟩
  refine ⟨hI, hM, hT, dv_CT0 x1 x2 x3, ⟨by rw [h29]; exact hps, ?_⟩, dv_es0 x5 x6', ?_⟩
  · rw [h39]
    unfold dv_r0
    rw [List.length_map]
  · have el : (dv_r0 l).map dv_pe = l.map (fun q => ((q.1, dv_lk []), (q.2, dv_lk []), 0)) := by
      unfold dv_r0
      rw [List.map_map]
      rfl
    rw [el]
    refine ⟨fun th _ hp q hq => hp _ (List.mem_map_of_mem hq), fun th _ hQ p hp => ?_, Int.le_refl _, fun th0 g0 s0 q0 => ⟨th0, ⟨g0, s0, fun v B e h => absurd h nc⟩, fun _ _ _ => rfl⟩⟩
    obtain ⟨q, hq, rfl⟩ := List.mem_map.mp hp
    exact hQ q hq
