/-! ===== a pair: what both sides share; below two \ ===== -/
def vx_lh : rf_N → Nat
  | .leaf => 0
  | .inner _ q _ F X => max (if q.1 = 3 then 0 else if q.1 = 0 then vx_lh F + 1 else vx_lh F) (vx_lh X)
def vx_hh : rf_N → Nat
  | .leaf => 0
  | .inner _ q _ F X => max (if q.1 = 3 then 0 else if q.1 = 0 then vx_hh F else vx_hh F + 1) (vx_hh X)
/-- how many nodes; a call is one -/
def vx_hz : rf_N → Nat
  | .leaf => 0
  | .inner _ q _ F X => (if q.1 = 3 then 1 else vx_hz F + 1) + vx_hz X
theorem vx_hz_in (j : Nat) (q : Int × Int) (u : Unit) (F X : rf_N) : vx_hz (.inner j q u F X) = (if q.1 = 3 then 1 else vx_hz F + 1) + vx_hz X := rfl
theorem vx_hz_lam {j : Nat} {k h : Int} {F : rf_N} (h3 : k ≠ 3) : vx_hz (rf_n j k h F .leaf) = vx_hz F + 1 := by
  rw [vx_hz_in, if_neg h3]
  rfl
theorem vx_hz_call {j : Nat} {m : Int} {F : rf_N} : vx_hz (rf_n j 3 m F .leaf) = 1 := by
  rw [vx_hz_in, if_pos rfl]
  rfl
theorem vx_hz_el {A : rf_N} : ∀ {F : rf_N}, A ∈ vx_el F → vx_hz A ≤ vx_hz F
  | .leaf, h => absurd h List.not_mem_nil
  | .inner j q u F X, h => by
    rw [vx_hz_in]
    rcases List.mem_cons.mp h with rfl | h
    · rw [vx_hz_in]
      have e1 : vx_hz .leaf = 0 := rfl
      omega
    · have := vx_hz_el h
      omega
theorem vx_lh_in (j : Nat) (q : Int × Int) (u : Unit) (F X : rf_N) : vx_lh (.inner j q u F X) = max (if q.1 = 3 then 0 else if q.1 = 0 then vx_lh F + 1 else vx_lh F) (vx_lh X) := rfl
theorem vx_hh_in (j : Nat) (q : Int × Int) (u : Unit) (F X : rf_N) : vx_hh (.inner j q u F X) = max (if q.1 = 3 then 0 else if q.1 = 0 then vx_hh F else vx_hh F + 1) (vx_hh X) := rfl
theorem vx_lh_lam {j : Nat} {x : Int} {F : rf_N} : vx_lh (rf_n j 0 x F .leaf) = vx_lh F + 1 ∧ vx_hh (rf_n j 0 x F .leaf) = vx_hh F := by
  rw [vx_lh_in, vx_hh_in, if_neg vx_03, if_pos rfl, if_neg vx_03, if_pos rfl]
  exact ⟨Nat.max_eq_left (Nat.zero_le _), Nat.max_eq_left (Nat.zero_le _)⟩
theorem vx_lh_rig {j : Nat} {k h : Int} {F : rf_N} (h0 : k ≠ 0) (h3 : k ≠ 3) : vx_lh (rf_n j k h F .leaf) = vx_lh F ∧ vx_hh (rf_n j k h F .leaf) = vx_hh F + 1 := by
  rw [vx_lh_in, vx_hh_in, if_neg h3, if_neg h0, if_neg h3, if_neg h0]
  exact ⟨Nat.max_eq_left (Nat.zero_le _), Nat.max_eq_left (Nat.zero_le _)⟩
theorem vx_lh_el {A : rf_N} : ∀ {F : rf_N}, A ∈ vx_el F → vx_lh A ≤ vx_lh F ∧ vx_hh A ≤ vx_hh F
  | .leaf, h => absurd h List.not_mem_nil
  | .inner j q u F X, h => by
    rw [vx_lh_in, vx_hh_in]
    rcases List.mem_cons.mp h with rfl | h
    · rw [vx_lh_in, vx_hh_in]
      have e1 : vx_lh .leaf = 0 := rfl
      have e2 : vx_hh .leaf = 0 := rfl
      rw [e1, e2]
      exact ⟨by omega, by omega⟩
    · have := vx_lh_el h
      exact ⟨by omega, by omega⟩
def vx_isl (A : rf_N) : Prop := ∃ (j : Nat) (x : Int) (F : rf_N), A = rf_n j 0 x F .leaf
/-- both sides of a pair: of one type, with the same types of what is bound -/
def vx_2 (tv tc : Int → rf_T) (tm : Int → Int → rf_T) (S : vx_S) (A : rf_N) (c : List (Int × Int)) (B : rf_N) (d : List (Int × Int)) (L : Int) : Prop := True → ∃ lt t, vx_sd tv tc tm S lt L t A c ∧ vx_sd tv tc tm S lt L t B d
/-- n times a \ taken off -/
def vx_sl : Nat → rf_N → List (Int × Int) → Int → rf_N → List (Int × Int) → Prop
  | 0, A, c, _, A', c' => A = A' ∧ c = c'
  | n + 1, A, c, L, A', c' => ∃ (j : Nat) (x : Int) (F : rf_N), A = rf_n j 0 x F .leaf ∧ vx_sl n F ((x, L) :: c) (L + 1) A' c'
theorem vx_sl_t : ∀ {n m : Nat} {A A' A'' : rf_N} {c c' c'' : List (Int × Int)} {L L' : Int}, L' = L + (n : Int) → vx_sl n A c L A' c' → vx_sl m A' c' L' A'' c'' → vx_sl (m + n) A c L A'' c''
  | 0, m, A, A', A'', c, c', c'', L, L', eL, ⟨e1, e2⟩, h2 => by
    rw [e1, e2, show L = L' by omega]
    exact h2
  | n + 1, m, A, A', A'', c, c', c'', L, L', eL, ⟨j, x, F, e, h1⟩, h2 => ⟨j, x, F, e, vx_sl_t (by omega) h1 h2⟩
/-- on the way down from one pair to another: the same equations -/
def vx_rd (S : vx_S) (A : rf_N) (c : List (Int × Int)) (B : rf_N) (d : List (Int × Int)) (L : Int) (A' : rf_N) (c' : List (Int × Int)) (B' : rf_N) (d' : List (Int × Int)) (L' : Int) : Prop := True → (∀ th, vx_So S th → (vx_pe th S.2.2.2.2 ((A, dv_lk c), (B, dv_lk d), L) ↔ vx_pe th S.2.2.2.2 ((A', dv_lk c'), (B', dv_lk d'), L'))) ∧ (vx_hh A' ≤ vx_hh A ∧ vx_hh B' ≤ vx_hh B ∧ vx_lh A' ≤ vx_lh A ∧ vx_lh B' ≤ vx_lh B ∧ vx_hz A' ≤ vx_hz A ∧ vx_hz B' ≤ vx_hz B) ∧ (∀ m, vx_mt m A' → vx_mt m A) ∧ (∀ m, vx_mt m B' → vx_mt m B) ∧ ∃ n : Nat, L' = L + (n : Int) ∧ vx_sl n A c L A' c' ∧ vx_sl n B d L B' d'
section
variable {tv tc : Int → rf_T} {tm : Int → Int → rf_T} {S : vx_S} {L : Int}
theorem vx_rd_refl {A B : rf_N} {c d : List (Int × Int)} : vx_rd S A c B d L A c B d L := fun _ => ⟨fun _ _ => Iff.rfl, ⟨Nat.le_refl _, Nat.le_refl _, Nat.le_refl _, Nat.le_refl _, Nat.le_refl _, Nat.le_refl _⟩, fun _ h => h, fun _ h => h, 0, by omega, ⟨rfl, rfl⟩, ⟨rfl, rfl⟩⟩
theorem vx_rd_t {L' L'' : Int} {A B A' B' A'' B'' : rf_N} {c d c' d' c'' d'' : List (Int × Int)} (h1 : vx_rd S A c B d L A' c' B' d' L') (h2 : vx_rd S A' c' B' d' L' A'' c'' B'' d'' L'') : vx_rd S A c B d L A'' c'' B'' d'' L'' := fun _ => by
  obtain ⟨a1, ⟨a2, a3, a6, a7, a8, a9⟩, a4, a5, n1, eL1, sl1, sr1⟩ := h1 trivial
  obtain ⟨b1, ⟨b2, b3, b6, b7, b8, b9⟩, b4, b5, n2, eL2, sl2, sr2⟩ := h2 trivial
  exact ⟨fun th hS => (a1 th hS).trans (b1 th hS), ⟨by omega, by omega, by omega, by omega, by omega, by omega⟩, fun m h => a4 m (b4 m h), fun m h => a5 m (b5 m h), n2 + n1, by omega, vx_sl_t eL1 sl1 sl2, vx_sl_t eL1 sr1 sr2⟩
/-- the one is a \ just if the other is -/
theorem vx_2_lam {A B : rf_N} {c d : List (Int × Int)} (h : vx_2 tv tc tm S A c B d L) : vx_isl A ↔ vx_isl B := by
  obtain ⟨lt, t, h1, h2⟩ := h trivial
  have key : ∀ {A : rf_N} {c : List (Int × Int)}, vx_sd tv tc tm S lt L t A c → (vx_isl A ↔ t ≠ rf_b) := fun {A c} h => by
    obtain ⟨⟨_, ⟨j, k, hh, F, rfl⟩, a3⟩, _⟩ := h trivial
    rcases a3 with ⟨q, C, q1, _⟩ | ⟨q, q1, _⟩ | ⟨q, q1, _⟩ | ⟨q, q1, _⟩
    · have q' : k = 0 := q
      rw [q', q1]
      exact ⟨fun _ e => (by cases e), fun _ => ⟨_, _, _, rfl⟩⟩
    all_goals
      refine ⟨fun ⟨j', x, F', e⟩ => ?_, fun e => absurd q1 e⟩
      injection e with _ e2
      have e3 : k = 0 := (Prod.mk.inj e2).1
      have q' := q
      dsimp only at q'
      omega
  rw [key h1, key h2]
theorem vx_2_dn {j j' : Nat} {x y : Int} {F G : rf_N} {c d : List (Int × Int)} (hF : vx_sg F) (hG : vx_sg G) (h : vx_2 tv tc tm S (rf_n j 0 x F .leaf) c (rf_n j' 0 y G .leaf) d L) : vx_2 tv tc tm S F ((x, L) :: c) G ((y, L) :: d) (L + 1) := fun _ => by
  obtain ⟨lt, t, h1, h2⟩ := h trivial
  obtain ⟨B, e1, g1⟩ := vx_sd_lam hF h1
  obtain ⟨B', e2, g2⟩ := vx_sd_lam hG h2
  rw [e1] at e2
  have a1 : tv x = tv y := by injection e2
  have a2 : B = B' := by injection e2
  rw [← a1, ← a2] at g2
  exact ⟨_, B, g1, g2⟩
theorem vx_rd_dn {j j' : Nat} {x y : Int} {F G : rf_N} {c d : List (Int × Int)} : vx_rd S (rf_n j 0 x F .leaf) c (rf_n j' 0 y G .leaf) d L F ((x, L) :: c) G ((y, L) :: d) (L + 1) := fun _ => by
  refine ⟨fun th hS => ?_, ⟨by rw [(vx_lh_lam (j := j) (x := x) (F := F)).2]; exact Nat.le_refl _, by rw [(vx_lh_lam (j := j') (x := y) (F := G)).2]; exact Nat.le_refl _, by rw [(vx_lh_lam (j := j) (x := x) (F := F)).1]; omega, by rw [(vx_lh_lam (j := j') (x := y) (F := G)).1]; omega, by rw [vx_hz_lam vx_03]; omega, by rw [vx_hz_lam vx_03]; omega⟩, fun m hm => Or.inr (Or.inl ⟨by show (0 : Int) ≠ 3; decide, hm⟩), fun m hm => Or.inr (Or.inl ⟨by show (0 : Int) ≠ 3; decide, hm⟩), 1, by omega, ⟨j, x, F, rfl, rfl, rfl⟩, ⟨j', y, G, rfl, rfl, rfl⟩⟩
  rw [dv_lk_up, dv_lk_up]
  exact vx_eq_lam
end
/-- the pair that the solver looks at -/
def dv_cu (u : sx_S) (AR : Nat → List Int) (A : rf_N) (c : List (Int × Int)) (B : rf_N) (d : List (Int × Int)) (L : Int) : Prop := True → (dv_at u AR A (u.1 38 8) ∧ dv_c u c (u.1 29 3) (u.1 38 9)) ∧ (dv_at u AR B (u.1 38 10) ∧ dv_c u d (u.1 29 3) (u.1 38 11)) ∧ u.1 38 12 = L
/-- the links below m stay -/
def dv_lm (m : Int) (s u : sx_S) : Prop := True → m ≤ u.1 29 3 ∧ ∀ j : Nat, (j : Int) < m → u.2.1 30 j = s.2.1 30 j ∧ u.2.1 31 j = s.2.1 31 j ∧ u.2.1 32 j = s.2.1 32 j
