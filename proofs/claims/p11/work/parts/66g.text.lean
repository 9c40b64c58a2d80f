section
/-! ===== the bytes of the whole text ===== -/
def vl_P5 (K : Nat → Int) (P : Nat → Nat) : Prop := vl_P K P ∧ (∀ i, K i = 5 → P i + 2 ≤ P (i + 1) ∧ (K (i + 1) = 2 → P i + 3 ≤ P (i + 1))) ∧ ∀ i, K i = 4 → K (i + 1) = 2 → P i + 4 ≤ P (i + 1)
theorem vl_rn_stop {p : Int → Bool} {b : Nat → Int} {n : Int} : ∀ (f : Nat) (k : Int), (n - k).toNat ≤ f → ¬ (px_rn p b n f k < n ∧ p (b (px_rn p b n f k).toNat) = true)
  | 0, k, h, ⟨h1, _⟩ => by
    have h1' : k < n := h1
    omega
  | f + 1, k, h, hh => by
    rw [px_rn] at hh
    by_cases q : k < n ∧ p (b k.toNat) = true
    · rw [if_pos q] at hh
      exact vl_rn_stop f (k + 1) (by omega) hh
    · rw [if_neg q] at hh
      exact q hh
theorem vl_ps_le {b : Nat → Int} {n : Int} (hn : 0 ≤ n) : ∀ i, 0 ≤ px_ps b n i ∧ px_ps b n i ≤ n
  | 0 => ⟨px_ru_ge, px_ru_le hn⟩
  | i + 1 => by
    obtain ⟨h1, h2⟩ := vl_ps_le (b := b) hn i
    have h3 : px_ps b n i ≤ px_en b n (px_ps b n i) := by
      by_cases q : px_ps b n i < n
      · have := px_en_gt (b := b) q
        omega
      · unfold px_en
        rw [if_pos (by omega)]
        exact Int.le_refl _
    have h4 : px_en b n (px_ps b n i) ≤ px_ps b n (i + 1) := px_ru_ge
    exact ⟨by omega, px_ru_le (px_en_le h2)⟩
/-- words: where they end -/
theorem vl_word {b : Nat → Int} {n : Int} (hn : 0 ≤ n) {i : Nat} (hw : px_K b n i = 2 ∨ px_K b n i = 4 ∨ px_K b n i = 5) : px_ps b n i < n ∧ ∃ e, px_ps b n i + 1 ≤ e ∧ (px_K b n i = 4 → e = px_ps b n i + 3) ∧ (px_K b n i = 5 → e = px_ps b n i + 2) ∧ e ≤ px_ps b n (i + 1) ∧ (px_K b n (i + 1) = 2 → e + 1 ≤ px_ps b n (i + 1)) := by
  obtain ⟨h1, h2⟩ := vl_ps_le (b := b) hn i
  have hk : px_K b n i = px_kd b n (px_ps b n i) := rfl
  have lt : px_ps b n i < n := by
    apply Classical.byContradiction
    intro q
    unfold px_kd at hk
    rw [if_pos (by omega)] at hk
    omega
  have hle : px_le (b (px_ps b n i).toNat) := by
    apply Classical.byContradiction
    intro q
    unfold px_kd at hk
    rw [if_neg (by omega), if_neg q] at hk
    unfold px_sg at hk
    by_cases c1 : b (px_ps b n i).toNat = 45
    · rw [if_pos c1] at hk
      by_cases c2 : px_ps b n i + 1 < n ∧ b (px_ps b n i + 1).toNat = 62
      · rw [if_pos c2] at hk
        omega
      · rw [if_neg c2] at hk
        omega
    · rw [if_neg c1] at hk
      unfold px_s7 at hk
      (repeat' split at hk) <;> omega
  have e1 : px_kd b n (px_ps b n i) = px_wk b (px_ps b n i) (px_ru px_wdb b n (px_ps b n i)) := by
    unfold px_kd
    rw [if_neg (by omega), if_pos hle]
  have e2 : px_en b n (px_ps b n i) = px_ru px_wdb b n (px_ps b n i) := by
    unfold px_en
    rw [if_neg (by omega), if_pos hle]
  have e3 : px_ps b n (i + 1) = px_ru px_blb b n (px_en b n (px_ps b n i)) := rfl
  rw [e1] at hk
  rw [e2] at e3
  have stop : ¬ (px_ru px_wdb b n (px_ps b n i) < n ∧ px_wdb (b (px_ru px_wdb b n (px_ps b n i)).toNat) = true) := vl_rn_stop _ _ (Nat.le_refl _)
  have gt := px_en_gt (b := b) lt
  rw [e2] at gt
  have ge : px_ru px_wdb b n (px_ps b n i) ≤ px_ps b n (i + 1) := by
    rw [e3]
    exact px_ru_ge
  refine ⟨lt, px_ru px_wdb b n (px_ps b n i), by omega, fun q => ?_, fun q => ?_, ge, fun q => ?_⟩
  · rw [q] at hk
    unfold px_wk at hk
    by_cases c : 8 < px_ru px_wdb b n (px_ps b n i) - px_ps b n i
    · rw [if_pos c] at hk
      omega
    · rw [if_neg c] at hk
      cases c1 : px_wq 1 b (px_ps b n i) (px_ru px_wdb b n (px_ps b n i)) with
      | true =>
        rw [c1] at hk
        have hk' : (4 : Int) = 3 := hk
        omega
      | false =>
        rw [c1] at hk
        cases c2 : px_wq 2 b (px_ps b n i) (px_ru px_wdb b n (px_ps b n i)) with
        | true =>
          have := (of_decide_eq_true c2).1
          omega
        | false =>
          rw [c2] at hk
          exfalso
          revert hk
          cases px_wq 3 b (px_ps b n i) (px_ru px_wdb b n (px_ps b n i)) <;> cases px_wq 4 b (px_ps b n i) (px_ru px_wdb b n (px_ps b n i)) <;> cases px_wq 5 b (px_ps b n i) (px_ru px_wdb b n (px_ps b n i)) <;> decide
  · rw [q] at hk
    unfold px_wk at hk
    by_cases c : 8 < px_ru px_wdb b n (px_ps b n i) - px_ps b n i
    · rw [if_pos c] at hk
      omega
    · rw [if_neg c] at hk
      cases c3 : px_wq 3 b (px_ps b n i) (px_ru px_wdb b n (px_ps b n i)) with
      | true =>
        have := (of_decide_eq_true c3).1
        omega
      | false =>
        rw [c3] at hk
        exfalso
        revert hk
        cases px_wq 1 b (px_ps b n i) (px_ru px_wdb b n (px_ps b n i)) <;> cases px_wq 2 b (px_ps b n i) (px_ru px_wdb b n (px_ps b n i)) <;> cases px_wq 4 b (px_ps b n i) (px_ru px_wdb b n (px_ps b n i)) <;> cases px_wq 5 b (px_ps b n i) (px_ru px_wdb b n (px_ps b n i)) <;> decide
  · apply Classical.byContradiction
    intro c
    have ee : px_ps b n (i + 1) = px_ru px_wdb b n (px_ps b n i) := by omega
    have hk2 : px_K b n (i + 1) = px_kd b n (px_ps b n (i + 1)) := rfl
    rw [q, ee] at hk2
    unfold px_kd at hk2
    by_cases c1 : n ≤ px_ru px_wdb b n (px_ps b n i)
    · rw [if_pos c1] at hk2
      omega
    · rw [if_neg c1] at hk2
      by_cases c2 : px_le (b (px_ru px_wdb b n (px_ps b n i)).toNat)
      · exact stop ⟨by omega, decide_eq_true (Or.inl c2)⟩
      · rw [if_neg c2] at hk2
        unfold px_sg at hk2
        by_cases c3 : b (px_ru px_wdb b n (px_ps b n i)).toNat = 45
        · rw [if_pos c3] at hk2
          by_cases c4 : px_ru px_wdb b n (px_ps b n i) + 1 < n ∧ b (px_ru px_wdb b n (px_ps b n i) + 1).toNat = 62
          · rw [if_pos c4] at hk2
            omega
          · rw [if_neg c4] at hk2
            omega
        · rw [if_neg c3] at hk2
          unfold px_s7 at hk2
          (repeat' split at hk2) <;> omega
theorem vl_P5_ps {b : Nat → Int} {n : Int} (hn : 0 ≤ n) : vl_P5 (px_K b n) (fun i => (px_ps b n i).toNat) := by
  refine ⟨⟨fun i hi => ?_, fun i h1 h2 => ?_⟩, fun i h1 => ?_, fun i h1 h2 => ?_⟩
  · obtain ⟨h1, h2⟩ := vl_ps_le (b := b) hn i
    have lt : px_ps b n i < n := by
      apply Classical.byContradiction
      intro q
      have hk : px_K b n i = px_kd b n (px_ps b n i) := rfl
      unfold px_kd at hk
      rw [if_pos (by omega)] at hk
      omega
    have h3 := px_en_gt (b := b) lt
    have h4 : px_en b n (px_ps b n i) ≤ px_ps b n (i + 1) := px_ru_ge
    dsimp only
    omega
  · obtain ⟨lt, e, e1, _, _, e4, e5⟩ := vl_word hn (Or.inl h1)
    have := e5 h2
    have := (vl_ps_le (b := b) hn i).1
    dsimp only
    omega
  · obtain ⟨lt, e, e1, _, e3, e4, e5⟩ := vl_word hn (Or.inr (Or.inr h1))
    have := e3 h1
    have := (vl_ps_le (b := b) hn i).1
    dsimp only
    exact ⟨by omega, fun q => by have := e5 q; omega⟩
  · obtain ⟨lt, e, e1, e2, _, e4, e5⟩ := vl_word hn (Or.inr (Or.inl h1))
    have := e2 h1
    have := e5 h2
    have := (vl_ps_le (b := b) hn i).1
    dsimp only
    omega
theorem px_TY_P2 {K : Nat → Int} {P : Nat → Nat} (hP : vl_P K P) : ∀ {f : Nat} {a : Int} {x : qx_T} {c : Int}, 0 ≤ a → px_TY K f a x c → 2 ≤ qx_at x → P a.toNat + 3 ≤ P c.toNat
  | 0, _, _, _, _, h, _ => h.elim
  | f + 1, a, x, c, ha, h, h2 => by
    obtain ⟨y, e, h1, h3⟩ := h
    have k1 : a + 1 ≤ e ∧ P a.toNat + 1 ≤ P e.toNat ∧ (2 ≤ qx_at y → P a.toNat + 3 ≤ P e.toNat) := by
      rcases h1 with ⟨q1, q2, q3⟩ | ⟨q1, q2, q3⟩ | ⟨q1, g, q2, q3, q4⟩
      · refine ⟨by omega, vl_P1 hP ha q1 (by decide) q3, fun z => ?_⟩
        rw [q2] at z
        exact absurd z (by decide)
      · refine ⟨by omega, vl_P1 hP ha q1 (by decide) q3, fun z => ?_⟩
        rw [q2] at z
        exact absurd z (by decide)
      · obtain ⟨i1, i2⟩ := px_TY_P hP (by omega) q2
        have j1 := vl_P1 hP ha q1 (by decide) (b := a + 1) rfl
        have j2 := vl_P1 hP (a := g) (by omega) q3 (by decide) q4
        exact ⟨by omega, by omega, fun _ => by omega⟩
    obtain ⟨k1, k2, k3⟩ := k1
    rcases h3 with ⟨q1, w, q2, _⟩ | ⟨_, q2, q3⟩
    · have j1 := vl_P1 hP (a := e) (by omega) q1 (by decide) (b := e + 1) rfl
      obtain ⟨i1, i2⟩ := px_TY_P hP (by omega) q2
      omega
    · rw [q3]
      rw [q2] at h2
      exact k3 h2
end
section
/-! ===== the bytes of the whole text: items ===== -/
abbrev vl_I : Type := (Int × Int × qx_T) × (px_N × px_N)
def vl_TX (K : Nat → Int) : List vl_I → Int → Prop
  | [], a => K a.toNat = 0
  | q :: l, a => ∃ c, px_IT K a q c ∧ vl_TX K l c
/-- the trees of the equations -/
def vl_tx (SN : Int → Int → Prop) (TV : Int → qx_T → Prop) (AR : Nat → List Int) : List vl_I → List (Int × qx_T) → List (Int × qx_T) → vw_L → Prop
  | [], _, _, l => l = []
  | q :: r, C, M, l => (q.1.1 = 3 ∧ vl_tx SN TV AR r (C ++ [q.1.2]) M l) ∨ (q.1.1 = 4 ∧ vl_tx SN TV AR r C (M ++ [q.1.2]) l) ∨ (q.1.1 = 5 ∧ ∃ L R l' x, l = (L, R) :: l' ∧ (vl_tm SN C M TV AR q.2.1).1 L [] [] x ∧ (vl_tm SN C M TV AR q.2.2).1 R [] [] x ∧ vl_tx SN TV AR r C M l')
/-- all unknowns, all equations -/
def vl_mf : List vl_I → List (Int × qx_T) → List (Int × qx_T)
  | [], M => M
  | q :: r, M => if q.1.1 = 4 then vl_mf r (M ++ [q.1.2]) else vl_mf r M
def vl_ne : List vl_I → Nat
  | [] => 0
  | q :: r => (if q.1.1 = 5 then 1 else 0) + vl_ne r
theorem vl_mf_at : ∀ {l : List vl_I} {M : List (Int × qx_T)} {i : Nat} {q : Int × qx_T}, M[i]? = some q → (vl_mf l M)[i]? = some q
  | [], _, _, _, h => h
  | p :: r, M, i, q, h => by
    show (if p.1.1 = 4 then vl_mf r (M ++ [p.1.2]) else vl_mf r M)[i]? = some q
    by_cases c : p.1.1 = 4
    · rw [if_pos c]
      refine vl_mf_at ?_
      rw [List.getElem?_append_left (List.getElem?_eq_some_iff.mp h).1]
      exact h
    · rw [if_neg c]
      exact vl_mf_at h
def vl_wl (AR : Nat → List Int) (D : List Int) : vw_L → Nat
  | [] => 0
  | q :: l => vl_w AR D q.1 [] + vl_w AR D q.2 [] + vl_wl AR D l
theorem vl_wl_cl {AR : Nat → List Int} {D : List Int} : ∀ {l : vw_L}, vl_wl AR D l = vx_ls (fun m => 2 * vw_cl AR true m l + 6 * vw_cl AR false m l) D
  | [] => by
    have : ∀ l : List Int, vx_ls (fun m => 2 * vw_cl AR true m [] + 6 * vw_cl AR false m []) l = 0 := fun l => by
      induction l with
      | nil => rfl
      | cons x l ih =>
        show 0 + vx_ls _ l = 0
        rw [ih]
    exact (this D).symm
  | q :: l => by
    show vl_w AR D q.1 [] + vl_w AR D q.2 [] + vl_wl AR D l = _
    rw [vl_wl_cl (l := l)]
    unfold vl_w
    rw [← vx_ls_add, ← vx_ls_add]
    congr 1
    funext m
    show _ = 2 * (vw_cn AR true m q.1 [] + vw_cn AR true m q.2 [] + vw_cl AR true m l) + 6 * (vw_cn AR false m q.1 [] + vw_cn AR false m q.2 [] + vw_cl AR false m l)
    omega
/-- what is declared from the j-th unknown on -/
def vl_ol (o : Int → Nat) (D : List Int) (j : Nat) : Nat := vx_ls (fun m => if (j : Int) ≤ m then o m else 0) D
theorem vl_ol_s {o : Int → Nat} {D : List Int} (hD : D.Nodup) (j : Nat) : vl_ol o D j ≤ vl_ol o D (j + 1) + o (j : Int) := by
  have h1 : vl_ol o D j ≤ vx_ls (fun m => (if ((j + 1 : Nat) : Int) ≤ m then o m else 0) + (if m = (j : Int) then o (j : Int) else 0)) D := by
    refine vx_ls_le (fun m _ => ?_)
    by_cases c1 : (j : Int) ≤ m
    · by_cases c2 : m = (j : Int)
      · rw [if_pos c1, if_pos c2, c2]
        omega
      · rw [if_pos c1, if_pos (by omega)]
        omega
    · rw [if_neg c1]
      omega
  rw [vx_ls_add] at h1
  have h2 := vx_ls_one (g := fun m => if m = (j : Int) then o (j : Int) else 0) (h := (j : Int)) (fun m hm => if_neg hm) hD
  try dsimp only at h2
  rw [if_pos rfl] at h2
  unfold vl_ol at *
  omega
theorem vl_ol_0 {o : Int → Nat} : ∀ {D : List Int} {j : Nat}, (∀ m ∈ D, m < (j : Int)) → vl_ol o D j = 0
  | [], _, _ => rfl
  | x :: D, j, h => by
    have ih := vl_ol_0 (o := o) (D := D) (j := j) (fun m hm => h m (List.mem_cons_of_mem _ hm))
    have hx := h x List.mem_cons_self
    show (if (j : Int) ≤ x then o x else 0) + vl_ol o D j = 0
    rw [ih, if_neg (by omega)]
section
variable {SN : Int → Int → Prop} {TV : Int → qx_T → Prop} {AR : Nat → List Int} {D : List Int} {K : Nat → Int} {P : Nat → Nat}
/-- one side: where it begins -/
theorem vl_side (hD : D.Nodup) (hP : vl_P K P) {C M : List (Int × qx_T)} (hC : ∀ q ∈ C, qx_at q.2 ≤ 5) (hM : ∀ q ∈ M, qx_at q.2 ≤ 5) {f : Nat} {a c : Int} {t : px_N} {W : rf_N} {x : qx_T} (ha : 0 ≤ a) (h : px_TM K f a t c) (hv : (vl_tm SN C M TV AR t).1 W [] [] x) (hK : K a.toNat ≠ 2) : vl_w AR D W [] + P a.toNat ≤ P c.toNat + 2 ∧ ∀ (i : Nat) (kk hh : Int) (G : rf_N), kk ≠ 0 → kk ≠ 3 → vw_su (rf_n i kk hh G .leaf) W → (∀ m ∈ D, ¬ vx_mt m (rf_n i kk hh G .leaf)) → vl_w AR D W [] + vw_np (rf_n i kk hh G .leaf) + P a.toNat ≤ P c.toNat + 4 := by
  cases f with
  | zero => exact h.elim
  | succ f =>
    rcases h with ⟨k1, k2, k3, y, e, h1, k4, u, h2, ht⟩ | ⟨k1, _⟩
    · subst ht
      rcases hv with ⟨_, j, v, F, B, v1, ⟨_, _, _, v2⟩, v3, v4⟩ | ⟨g0, _⟩
      · have j1 := vl_P1 hP ha k1 (by decide) (b := a + 1) rfl
        obtain ⟨t1, t2⟩ := px_TY_P hP (by omega) h1
        have j2 := vl_P1 hP (a := a + 1) (by omega) k2 (by decide) (b := a + 2) (by omega)
        have j3 := vl_P1 hP (a := a + 2) (by omega) k3 (by decide) (b := a + 3) (by omega)
        have j4 := vl_P1 hP (a := e) (by omega) k4 (by decide) (b := e + 1) rfl
        obtain ⟨_, b4, _, b8⟩ := vl_bytes hD hP hC hM (Γ := [(a + 1, y)]) (fun q hq => by
          rw [List.mem_singleton.mp hq]
          exact v2) (by omega) h2 v3 trivial
        subst v1
        rw [vl_w_lam]
        have := b4 [v]
        refine ⟨by omega, fun i kk hh G kk0 kk3 hs hm => ?_⟩
        rcases hs with hs | ⟨_, hs⟩ | hs
        · injection hs with _ hs2
          exact absurd (Prod.mk.inj hs2).1 kk0
        · have := b8 i kk hh G kk0 kk3 hs hm [v]
          omega
        · exact hs.elim
      · exact absurd rfl g0
    · exact absurd k1 hK
theorem vl_text (hD : D.Nodup) (hP : vl_P5 K P) {o : Int → Nat} : ∀ {l : List vl_I} {a : Int} {C M : List (Int × qx_T)} {e0 : Nat} {tl : vw_L}, 0 ≤ a → vl_TX K l a → px_ck SN l C M e0 → vl_tx SN TV AR l C M tl → (∀ q ∈ C, qx_at q.2 ≤ 5) → (∀ q ∈ M, qx_at q.2 ≤ 5) → (∀ (m : Nat) q, (vl_mf l M)[m]? = some q → o (m : Int) ≤ 8 ∨ (2 ≤ qx_at q.2 ∧ o (m : Int) ≤ 10)) → (∀ m ∈ D, m < ((vl_mf l M).length : Int)) → ∃ z : Int, (0 ≤ z ∧ K z.toNat = 0) ∧ e0 + vl_ne l ≤ max 4 e0 ∧ (vl_ol o D M.length + vl_wl AR D tl + P a.toNat ≤ P z.toNat + vl_ne l) ∧ (vw_H tl + P a.toNat ≤ P z.toNat + 8 * vl_ne l) ∧ (∀ q ∈ tl, (vx_lh q.1 ≤ 67 ∧ vx_hh q.1 ≤ 26) ∧ (vx_lh q.2 ≤ 67 ∧ vx_hh q.2 ≤ 26)) ∧ ∀ (i : Nat) (kk hh : Int) (G : rf_N), kk ≠ 0 → kk ≠ 3 → vw_M tl (rf_n i kk hh G .leaf) → (∀ m ∈ D, ¬ vx_mt m (rf_n i kk hh G .leaf)) → vl_ol o D M.length + vl_wl AR D tl + vw_np (rf_n i kk hh G .leaf) + P a.toNat ≤ P z.toNat + vl_ne l + 2
  | [], a, C, M, e0, tl, ha, h, _, ht, _, _, _, hm => by
    have ht' : tl = [] := ht
    subst ht'
    have h0 := vl_ol_0 (o := o) (D := D) (j := M.length) hm
    have z1 : vl_wl AR D [] = 0 := rfl
    have z2 : vw_H [] = 0 := rfl
    have z3 : vl_ne [] = 0 := rfl
    refine ⟨a, ⟨ha, h⟩, by omega, by omega, by omega, fun q hq => absurd hq List.not_mem_nil, fun i kk hh G _ _ ⟨q, hq, _⟩ => absurd hq List.not_mem_nil⟩
  | q :: l, a, C, M, e0, tl, ha, ⟨c, hi, hx⟩, hck, ht, hC, hM, ho, hm => by
    obtain ⟨hp, hp5, hp4⟩ := hP
    rcases hi with ⟨k1, k2, k3, x, e, h1, k4, k5, hq⟩ | ⟨k1, t, e, u, g, h1, k2, h2, k3, k4, hq⟩
    · obtain ⟨t1, t2⟩ := px_TY_P hp (by omega) h1
      have j1 := vl_P1 hp (a := a) ha rfl (by omega) (b := a + 1) rfl
      have j2 := vl_P1 hp (a := a + 1) (by omega) k2 (by decide) (b := a + 2) (by omega)
      have j3 := vl_P1 hp (a := a + 2) (by omega) k3 (by decide) (b := a + 3) (by omega)
      have j4 := vl_P1 hp (a := e) (by omega) k4 (by decide) k5
      rcases k1 with k1 | k1
      · have q1 : q.1.1 = 3 := by rw [hq]; exact k1
        rcases hck with ⟨_, _, _, _, c5, c6⟩ | ⟨z, _⟩ | ⟨z, _⟩
        · rcases ht with ⟨_, ht⟩ | ⟨z, _⟩ | ⟨z, _⟩
          · have em : vl_mf (q :: l) M = vl_mf l M := by
              show (if q.1.1 = 4 then _ else _) = _
              rw [if_neg (by omega)]
            have en : vl_ne (q :: l) = vl_ne l := by
              show (if q.1.1 = 5 then 1 else 0) + vl_ne l = _
              rw [if_neg (by omega)]
              omega
            rw [em] at ho hm
            obtain ⟨z, z1, z2, z3, z4, z5, z6⟩ := vl_text hD ⟨hp, hp5, hp4⟩ (by omega) hx c6 ht (fun p hp' => by
              rcases List.mem_append.mp hp' with hp' | hp'
              · exact hC p hp'
              · rw [List.mem_singleton.mp hp']
                exact c5) hM ho hm
            refine ⟨z, z1, by omega, by omega, by omega, z5, fun i kk hh G kk0 kk3 hs hmm => ?_⟩
            have := z6 i kk hh G kk0 kk3 hs hmm
            omega
          · omega
          · omega
        · omega
        · omega
      · have q1 : q.1.1 = 4 := by rw [hq]; exact k1
        rcases hck with ⟨z, _⟩ | ⟨_, _, _, _, c5, c6⟩ | ⟨z, _⟩
        · omega
        · rcases ht with ⟨z, _⟩ | ⟨_, ht⟩ | ⟨z, _⟩
          · omega
          · have em : vl_mf (q :: l) M = vl_mf l (M ++ [q.1.2]) := by
              show (if q.1.1 = 4 then _ else _) = _
              rw [if_pos q1]
            have en : vl_ne (q :: l) = vl_ne l := by
              show (if q.1.1 = 5 then 1 else 0) + vl_ne l = _
              rw [if_neg (by omega)]
              omega
            rw [em] at ho hm
            have lM : (M ++ [q.1.2]).length = M.length + 1 := by rw [List.length_append, List.length_singleton]
            obtain ⟨z, z1, z2, z3, z4, z5, z6⟩ := vl_text hD ⟨hp, hp5, hp4⟩ (by omega) hx c6 ht hC (fun p hp' => by
              rcases List.mem_append.mp hp' with hp' | hp'
              · exact hM p hp'
              · rw [List.mem_singleton.mp hp']
                exact c5) ho hm
            have os := vl_ol_s (o := o) hD M.length
            rw [lM] at z3 z6
            have i4 := hp4 a.toNat k1 (by rw [← show (a + 1).toNat = a.toNat + 1 by omega]; exact k2)
            rw [← show (a + 1).toNat = a.toNat + 1 by omega] at i4
            have ox := ho M.length q.1.2 (vl_mf_at (by rw [List.getElem?_append_right (Nat.le_refl _), Nat.sub_self]; rfl))
            have ex : q.1.2.2 = x := by rw [hq]
            have oo : o (M.length : Int) + P a.toNat ≤ P c.toNat := by
              rcases ox with ox | ⟨ox1, ox2⟩
              · omega
              · have := px_TY_P2 hp (by omega) h1 (by rw [← ex]; exact ox1)
                omega
            refine ⟨z, z1, by omega, by omega, by omega, z5, fun i kk hh G kk0 kk3 hs hmm => ?_⟩
            have := z6 i kk hh G kk0 kk3 hs hmm
            omega
          · omega
        · omega
    · have q1 : q.1.1 = 5 := by rw [hq]
      have q2 : q.2.1 = t ∧ q.2.2 = u := by rw [hq]; exact ⟨rfl, rfl⟩
      rcases hck with ⟨z, _⟩ | ⟨z, _⟩ | ⟨_, c2, _, c4⟩
      · omega
      · omega
      · rcases ht with ⟨z, _⟩ | ⟨z, _⟩ | ⟨_, L, R, l', x, el, v1, v2, ht⟩
        · omega
        · omega
        · rw [q2.1] at v1
          rw [q2.2] at v2
          have em : vl_mf (q :: l) M = vl_mf l M := by
            show (if q.1.1 = 4 then _ else _) = _
            rw [if_neg (by omega)]
          have en : vl_ne (q :: l) = vl_ne l + 1 := by
            show (if q.1.1 = 5 then 1 else 0) + vl_ne l = _
            rw [if_pos q1]
            omega
          rw [em] at ho hm
          obtain ⟨p1, p2⟩ := px_TM_P hp (by omega) h1
          obtain ⟨p3, p4⟩ := px_TM_P hp (by omega) h2
          have j2 := vl_P1 hp (a := e) (by omega) k2 (by decide) (b := e + 1) rfl
          have j3 := vl_P1 hp (a := g) (by omega) k3 (by decide) k4
          obtain ⟨i5, i5'⟩ := hp5 a.toNat k1
          rw [← show (a + 1).toNat = a.toNat + 1 by omega] at i5 i5'
          obtain ⟨z, z1, z2, z3, z4, z5, z6⟩ := vl_text hD ⟨hp, hp5, hp4⟩ (by omega) hx c4 ht hC hM ho hm
          obtain ⟨⟨a1, _, a2⟩, a3, ⟨a4, _, _⟩, a5⟩ := vl_bytes hD hp hC hM (Γ := []) (fun _ h => absurd h List.not_mem_nil) (by omega) h1 v1 trivial
          obtain ⟨⟨b1, _, b2⟩, b3, ⟨b4, _, _⟩, b5⟩ := vl_bytes hD hp hC hM (Γ := []) (fun _ h => absurd h List.not_mem_nil) (by omega) h2 v2 trivial
          have a3' := a3 []
          have b3' := b3 []
          subst el
          have eW : vl_wl AR D ((L, R) :: l') = vl_w AR D L [] + vl_w AR D R [] + vl_wl AR D l' := rfl
          have eH : vw_H ((L, R) :: l') = vw_np L + vw_np R + vw_H l' := rfl
          have hL : ∀ w d : Nat, (K (a + 1).toNat ≠ 2 → w + P (a + 1).toNat ≤ P e.toNat + d + 2) → w + P (a + 1).toNat ≤ P e.toNat + d + 3 → w + P a.toNat ≤ P e.toNat + d := fun w d h1 h2 => by
            by_cases kn : K (a + 1).toNat = 2
            · have := i5' kn
              omega
            · have := h1 kn
              omega
          have w1 := hL (vl_w AR D L []) 0 (fun kn => (vl_side hD hp hC hM (by omega) h1 v1 kn).1) a3'
          refine ⟨z, z1, by omega, by omega, by omega, fun q hq => ?_, fun i kk hh G kk0 kk3 hs hmm => ?_⟩
          · rcases List.mem_cons.mp hq with rfl | hq
            · show (vx_lh L ≤ 67 ∧ vx_hh L ≤ 26) ∧ (vx_lh R ≤ 67 ∧ vx_hh R ≤ 26)
              exact ⟨⟨by omega, by omega⟩, ⟨by omega, by omega⟩⟩
            · exact z5 q hq
          · obtain ⟨p, hp', hs⟩ := hs
            rcases List.mem_cons.mp hp' with rfl | hp'
            · rcases hs with hs | hs
              · have w2 := hL (vl_w AR D L [] + vw_np (rf_n i kk hh G .leaf)) 2 (fun kn => (vl_side hD hp hC hM (by omega) h1 v1 kn).2 i kk hh G kk0 kk3 hs hmm) (a5 i kk hh G kk0 kk3 hs hmm [])
                omega
              · have := b5 i kk hh G kk0 kk3 hs hmm []
                omega
            · have := z6 i kk hh G kk0 kk3 ⟨p, hp', hs⟩ hmm
              omega
end
end
section
/-! ===== the turns are never used up ===== -/
section
variable {sz : Int → Nat}
def vw_ins (sz : Int → Nat) (x : Int) : List Int → List Int
  | [] => [x]
  | y :: r => if sz y ≤ sz x then x :: y :: r else y :: vw_ins sz x r
theorem vw_ins_mem {x z : Int} : ∀ {l : List Int}, z ∈ vw_ins sz x l ↔ z = x ∨ z ∈ l
  | [] => by
    show z ∈ [x] ↔ _
    rw [List.mem_singleton]
    exact ⟨Or.inl, fun h => h.elim id (fun q => absurd q List.not_mem_nil)⟩
  | y :: r => by
    show z ∈ (if sz y ≤ sz x then x :: y :: r else y :: vw_ins sz x r) ↔ _
    by_cases c : sz y ≤ sz x
    · rw [if_pos c, List.mem_cons]
    · rw [if_neg c, List.mem_cons, vw_ins_mem, List.mem_cons]
      constructor
      · rintro (h | h | h)
        · exact Or.inr (Or.inl h)
        · exact Or.inl h
        · exact Or.inr (Or.inr h)
      · rintro (h | h | h)
        · exact Or.inr (Or.inl h)
        · exact Or.inl h
        · exact Or.inr (Or.inr h)
theorem vw_ins_nd {x : Int} : ∀ {l : List Int}, x ∉ l → l.Nodup → (vw_ins sz x l).Nodup
  | [], _, _ => List.nodup_cons.mpr ⟨List.not_mem_nil, List.Pairwise.nil⟩
  | y :: r, hx, hn => by
    show (if sz y ≤ sz x then x :: y :: r else y :: vw_ins sz x r).Nodup
    by_cases c : sz y ≤ sz x
    · rw [if_pos c]
      exact List.nodup_cons.mpr ⟨hx, hn⟩
    · rw [if_neg c]
      obtain ⟨n1, n2⟩ := List.nodup_cons.mp hn
      refine List.nodup_cons.mpr ⟨fun h => ?_, vw_ins_nd (fun h => hx (List.mem_cons_of_mem _ h)) n2⟩
      rcases vw_ins_mem.mp h with h | h
      · exact hx (by rw [h]; exact List.mem_cons_self)
      · exact n1 h
theorem vw_ins_pw {x : Int} : ∀ {l : List Int}, l.Pairwise (fun a b => sz b ≤ sz a) → (vw_ins sz x l).Pairwise (fun a b => sz b ≤ sz a)
  | [], _ => List.pairwise_cons.mpr ⟨fun _ h => absurd h List.not_mem_nil, List.Pairwise.nil⟩
  | y :: r, hp => by
    obtain ⟨p1, p2⟩ := List.pairwise_cons.mp hp
    show (if sz y ≤ sz x then x :: y :: r else y :: vw_ins sz x r).Pairwise _
    by_cases c : sz y ≤ sz x
    · rw [if_pos c]
      refine List.pairwise_cons.mpr ⟨fun z hz => ?_, hp⟩
      rcases List.mem_cons.mp hz with rfl | hz
      · exact c
      · have := p1 z hz
        omega
    · rw [if_neg c]
      refine List.pairwise_cons.mpr ⟨fun z hz => ?_, vw_ins_pw p2⟩
      rcases vw_ins_mem.mp hz with rfl | hz
      · omega
      · exact p1 z hz
theorem vw_sort : ∀ n : Nat, ∃ us : List Int, us.length = n ∧ us.Nodup ∧ (∀ m, m ∈ us ↔ 0 ≤ m ∧ m < (n : Int)) ∧ us.Pairwise (fun a b => sz b ≤ sz a)
  | 0 => ⟨[], rfl, List.Pairwise.nil, fun m => ⟨fun h => absurd h List.not_mem_nil, fun h => by omega⟩, List.Pairwise.nil⟩
  | n + 1 => by
    obtain ⟨us, h0, h1, h2, h3⟩ := vw_sort n
    have hl : ∀ l : List Int, (vw_ins sz (n : Int) l).length = l.length + 1 := fun l => by
      induction l with
      | nil => rfl
      | cons y r ih =>
        show (if sz y ≤ sz (n : Int) then (n : Int) :: y :: r else y :: vw_ins sz (n : Int) r).length = _
        by_cases c : sz y ≤ sz (n : Int)
        · rw [if_pos c]
          rfl
        · rw [if_neg c, List.length_cons, ih]
          rfl
    refine ⟨vw_ins sz (n : Int) us, by rw [hl, h0], vw_ins_nd (fun h => by have := (h2 _).mp h; omega) h1, fun m => ?_, vw_ins_pw h3⟩
    rw [vw_ins_mem, h2]
    constructor
    · rintro (h | h) <;> omega
    · intro h
      by_cases c : m = (n : Int)
      · exact Or.inl c
      · exact Or.inr (by omega)
end
theorem vw_cn_cg {AR AR' : Nat → List Int} {b : Bool} {m : Int} : ∀ {A : rf_N} {ls : List Int}, (∀ j ∈ rf_idx A, AR' j = AR j) → vw_cn AR' b m A ls = vw_cn AR b m A ls
  | .leaf, _, _ => rfl
  | .inner j q u F X, ls, h => by
    have hX := vw_cn_cg (b := b) (m := m) (A := X) (ls := []) (fun i hi => h i (List.mem_cons_of_mem _ (List.mem_append_right _ hi)))
    have hF := fun ls => vw_cn_cg (b := b) (m := m) (A := F) (ls := ls) (fun i hi => h i (List.mem_cons_of_mem _ (List.mem_append_left _ hi)))
    have hj := h j List.mem_cons_self
    have hb : vw_br AR' ls j = vw_br AR ls j := by
      unfold vw_br
      rw [hj]
    rw [vw_cn_in, vw_cn_in, hX, hF, hF, hb]
theorem vw_cl_cg {AR AR' : Nat → List Int} {b : Bool} {m : Int} : ∀ {l : vw_L}, (∀ q ∈ l, (∀ j ∈ rf_idx q.1, AR' j = AR j) ∧ ∀ j ∈ rf_idx q.2, AR' j = AR j) → vw_cl AR' b m l = vw_cl AR b m l
  | [], _ => rfl
  | q :: l, h => by
    obtain ⟨h1, h2⟩ := h q List.mem_cons_self
    show vw_cn AR' b m q.1 [] + vw_cn AR' b m q.2 [] + vw_cl AR' b m l = vw_cn AR b m q.1 [] + vw_cn AR b m q.2 [] + vw_cl AR b m l
    rw [vw_cn_cg h1, vw_cn_cg h2, vw_cl_cg (fun p hp => h p (List.mem_cons_of_mem _ hp))]
/-- an unknown without ARGs is always bare -/
theorem vw_cn_b0 {AR : Nat → List Int} {ar : Int → Int} {m : Int} (hm : ar m = 0) : ∀ {A : rf_N} {ls : List Int}, vx_ok ar AR A → vw_cn AR false m A ls = 0
  | .leaf, _, _ => rfl
  | .inner j q u F X, ls, ⟨h1, h2⟩ => by
    rw [vw_cn_in, vw_cn_b0 hm h2]
    rcases h1 with ⟨c, h1⟩ | ⟨c, h1⟩
    · rw [if_neg (by omega), vw_cn_b0 hm h1, vw_cn_b0 hm h1]
      split <;> rfl
    · rw [if_pos c, if_neg (fun z => ?_)]
      have e : q.2 = m := z.1
      rw [e, hm] at h1
      have e2 : AR j = [] := List.length_eq_zero_iff.mp (by omega)
      have e3 : vw_br AR ls j = true := decide_eq_true (by rw [e2]; rfl)
      rw [e3] at z
      cases z.2
theorem vx_ls_snoc {f : Int → Nat} {m : Int} : ∀ {l : List Int}, vx_ls f (l ++ [m]) = vx_ls f l + f m
  | [] => by
    show f m + 0 = 0 + f m
    omega
  | y :: r => by
    show f y + vx_ls f (r ++ [m]) = f y + vx_ls f r + f m
    rw [vx_ls_snoc]
    omega
theorem vl_cap {SN : Int → Int → Prop} {TV : Int → qx_T → Prop} {AR : Nat → List Int} {b : Nat → Int} {n : Int} {l : List vl_I} {tl : vw_L} {S : vx_S} {th : Int → rf_N} (hn : 0 ≤ n) (hn2 : n ≤ 240) (hX : vl_TX (px_K b n) l 0) (hck : px_ck SN l [] [] 0) (htx : vl_tx SN TV AR l [] [] tl) (hAR : ∀ q ∈ tl, (∀ j ∈ rf_idx q.1, S.2.2.2.2 j = AR j) ∧ ∀ j ∈ rf_idx q.2, S.2.2.2.2 j = AR j) (hmt : ∀ q ∈ tl, ∀ m, vx_mt m q.1 ∨ vx_mt m q.2 → 0 ≤ m ∧ m < ((vl_mf l []).length : Int)) (h5 : (vl_mf l []).length ≤ 5) (har : ∀ (m : Nat) q, (vl_mf l [])[m]? = some q → vw_cl AR false (m : Int) tl ≠ 0 → 2 ≤ qx_at q.2) (hS : vx_So S th) (hB : vw_B tl S) (hnl : ∀ u C e, S.2.2.2.1 u = some (C, e) → ¬ vx_isl C) : vw_F S tl < 1000000 := by
  obtain ⟨us, u0, u1, u2, u3⟩ := vw_sort (sz := fun m => vx_sz (th m)) (vl_mf l []).length
  have hbd := fun m => vw_bd_M hB hS m
  have hk0 : ∀ m, vw_bd S m = .leaf ∨ ∃ (j : Nat) (k h : Int) (F : rf_N), vw_bd S m = rf_n j k h F .leaf ∧ (k ≠ 0 ∧ k ≠ 3) ∧ vw_M tl (rf_n j k h F .leaf) ∧ ∀ m', vx_mt m' (rf_n j k h F .leaf) → vx_sz (th m') < vx_sz (th m) := fun m => by
    rcases hbd m with q | ⟨j, k, h, F, q1, q2, q3, q4⟩
    · exact Or.inl q
    · refine Or.inr ⟨j, k, h, F, q1, ⟨fun k0 => ?_, q2⟩, q3, q4⟩
      rcases vw_bd_or S m with z | ⟨⟨w, B, e, z1, z2⟩, _⟩
      · rw [q1] at z
        cases z
      · rw [q1] at z2
        have lam : vx_isl (rf_n j k h F .leaf) := ⟨j, h, F, by rw [k0]⟩
        rcases vw_wy_end z2 with z | ⟨x, ex, z⟩
        · rw [z] at z1
          exact hnl m _ e z1 lam
        · exact hnl x _ ex z lam
  have cd : vw_cd (vw_bd S) us := vw_cd_sort (sz := fun m => vx_sz (th m)) (full := fun m => m ∈ us) (fun m m' hm => by
    rcases hk0 m with q | ⟨j, k, h, F, q1, _, ⟨p, hp, q3⟩, q4⟩
    · rw [q] at hm
      exact hm.elim
    · rw [q1] at hm
      refine ⟨q4 m' hm, (u2 m').mpr (hmt p hp m' ?_)⟩
      exact q3.imp (vw_su_mt hm) (vw_su_mt hm)) (fun x hx => Or.inl hx) u3
  have cg : ∀ bb m, vw_cl S.2.2.2.2 bb m tl = vw_cl AR bb m tl := fun bb m => vw_cl_cg hAR
  have F1 := vw_F_le (S := S) (us := us) (l := tl) (fun q hq m hm => (u2 m).mpr (hmt q hq m hm))
  have F2 := vw_P (bd := vw_bd S) (AR := S.2.2.2.2) (c := fun m => vw_cl S.2.2.2.2 true m tl) (e := fun m => vw_cl S.2.2.2.2 false m tl) (fun m m' => by
    rcases hk0 m with q | ⟨j, k, h, F, q1, ⟨q0, q3⟩, ⟨p, hp, q4⟩, _⟩
    · rw [q]
      exact ⟨Nat.zero_le _, Nat.zero_le _⟩
    · rw [q1]
      have key : ∀ bb, vw_cn S.2.2.2.2 bb m' (rf_n j k h F .leaf) [] ≤ vw_cl S.2.2.2.2 bb m' tl := fun bb => by
        have a1 := vw_cl_mem (AR := S.2.2.2.2) (b := bb) (m := m') hp
        rcases q4 with q4 | q4
        · have := vw_cn_su (AR := S.2.2.2.2) (b := bb) (m := m') q0 q3 [] [] q4
          omega
        · have := vw_cn_su (AR := S.2.2.2.2) (b := bb) (m := m') q0 q3 [] [] q4
          omega
      exact ⟨key true, key false⟩) cd 6
  -- the bytes
  have hP := vl_P5_ps (b := b) hn
  have tx : ∀ D : List Int, D.Nodup → (∀ m ∈ D, 0 ≤ m ∧ m < ((vl_mf l []).length : Int)) → vx_ls (fun m => (if vw_cl S.2.2.2.2 false m tl = 0 then 8 else 10) + 2 * vw_cl S.2.2.2.2 true m tl + 6 * vw_cl S.2.2.2.2 false m tl) D ≤ 246 ∧ vw_H tl ≤ 272 ∧ ∀ m, (∀ x ∈ D, ¬ vx_mt x (vw_bd S m)) → vx_ls (fun m => (if vw_cl S.2.2.2.2 false m tl = 0 then 8 else 10) + 2 * vw_cl S.2.2.2.2 true m tl + 6 * vw_cl S.2.2.2.2 false m tl) D + vw_np (vw_bd S m) ≤ 246 := fun D hD hm => by
    obtain ⟨z, ⟨z0, _⟩, z2, z3, z4, _, z6⟩ := vl_text (AR := AR) (o := fun m => if vw_cl S.2.2.2.2 false m tl = 0 then 8 else 10) hD hP (Int.le_refl _) hX hck htx (fun _ h => absurd h List.not_mem_nil) (fun _ h => absurd h List.not_mem_nil) (fun m q hq => by
      try dsimp only
      by_cases c : vw_cl S.2.2.2.2 false (m : Int) tl = 0
      · rw [if_pos c]
        exact Or.inl (Nat.le_refl _)
      · rw [if_neg c]
        rw [cg] at c
        exact Or.inr ⟨har m q hq c, Nat.le_refl _⟩) (fun m h => (hm m h).2)
    try dsimp only at z3 z4 z6
    obtain ⟨w1, w2⟩ := vl_ps_le (b := b) hn z.toNat
    have eD : vl_ol (fun m => if vw_cl S.2.2.2.2 false m tl = 0 then 8 else 10) D 0 + vl_wl AR D tl = vx_ls (fun m => (if vw_cl S.2.2.2.2 false m tl = 0 then 8 else 10) + 2 * vw_cl S.2.2.2.2 true m tl + 6 * vw_cl S.2.2.2.2 false m tl) D := by
      rw [vl_wl_cl]
      unfold vl_ol
      rw [← vx_ls_add]
      have le : ∀ {f g : Int → Nat}, (∀ x ∈ D, f x = g x) → vx_ls f D = vx_ls g D := fun h => vx_ls_cg h
      refine le (fun m hm' => ?_)
      have c1 := cg true m
      have c2 := cg false m
      rw [if_pos (by have := (hm m hm').1; omega)]
      try dsimp only
      omega
    have e0 : ([] : List (Int × qx_T)).length = 0 := rfl
    rw [e0] at z3 z6
    rw [eD] at z3
    refine ⟨by omega, by omega, fun m hx => ?_⟩
    rcases hk0 m with q | ⟨j, k, h, F, q1, ⟨q0, q3⟩, q4, _⟩
    · rw [q]
      have zz : vw_np .leaf = 0 := rfl
      omega
    · rw [q1] at hx ⊢
      have := z6 j k h F q0 q3 q4 hx
      rw [eD] at this
      omega
  have fit : ∀ (suf pre : List Int), us = pre ++ suf → vw_fit (fun m => if vw_cl S.2.2.2.2 false m tl = 0 then 8 else 10) (fun m => vw_cl S.2.2.2.2 true m tl) (fun m => vw_cl S.2.2.2.2 false m tl) (vw_bd S) (246 - vx_ls (fun m => (if vw_cl S.2.2.2.2 false m tl = 0 then 8 else 10) + 2 * vw_cl S.2.2.2.2 true m tl + 6 * vw_cl S.2.2.2.2 false m tl) pre) suf := by
    intro suf
    induction suf with
    | nil => exact fun _ _ => trivial
    | cons m suf ih =>
      intro pre e
      have e' : us = (pre ++ [m]) ++ suf := by rw [e, List.append_assoc]; rfl
      have sub : ∀ x ∈ pre ++ [m], x ∈ us := fun x hx => by rw [e']; exact List.mem_append_left _ hx
      have nd : (pre ++ [m]).Nodup := by
        rw [e'] at u1
        exact (List.nodup_append.mp u1).1
      have ls : vx_ls (fun m => (if vw_cl S.2.2.2.2 false m tl = 0 then 8 else 10) + 2 * vw_cl S.2.2.2.2 true m tl + 6 * vw_cl S.2.2.2.2 false m tl) (pre ++ [m]) = vx_ls (fun m => (if vw_cl S.2.2.2.2 false m tl = 0 then 8 else 10) + 2 * vw_cl S.2.2.2.2 true m tl + 6 * vw_cl S.2.2.2.2 false m tl) pre + ((if vw_cl S.2.2.2.2 false m tl = 0 then 8 else 10) + 2 * vw_cl S.2.2.2.2 true m tl + 6 * vw_cl S.2.2.2.2 false m tl) := by
        exact vx_ls_snoc
      have t := (tx (pre ++ [m]) nd (fun x hx => (u2 x).mp (sub x hx))).2.2 m (fun x hx hmx => by
        rcases hk0 m with q | ⟨j, k, h, F, q1, _, _, q4⟩
        · rw [q] at hmx
          exact hmx.elim
        · rw [q1] at hmx
          have lt := q4 x hmx
          rcases List.mem_append.mp hx with hx | hx
          · rw [e] at u3
            have := (List.pairwise_append.mp u3).2.2 x hx m List.mem_cons_self
            omega
          · rw [List.mem_singleton.mp hx] at lt
            exact Nat.lt_irrefl _ lt)
      rw [ls] at t
      refine ⟨(by (try dsimp only); omega), ?_⟩
      have := ih (pre ++ [m]) e'
      rw [ls] at this
      try dsimp only
      rw [show 246 - vx_ls (fun m => (if vw_cl S.2.2.2.2 false m tl = 0 then 8 else 10) + 2 * vw_cl S.2.2.2.2 true m tl + 6 * vw_cl S.2.2.2.2 false m tl) pre - ((if vw_cl S.2.2.2.2 false m tl = 0 then 8 else 10) + 2 * vw_cl S.2.2.2.2 true m tl + 6 * vw_cl S.2.2.2.2 false m tl) = 246 - (vx_ls (fun m => (if vw_cl S.2.2.2.2 false m tl = 0 then 8 else 10) + 2 * vw_cl S.2.2.2.2 true m tl + 6 * vw_cl S.2.2.2.2 false m tl) pre + ((if vw_cl S.2.2.2.2 false m tl = 0 then 8 else 10) + 2 * vw_cl S.2.2.2.2 true m tl + 6 * vw_cl S.2.2.2.2 false m tl)) by omega]
      exact this
  have ok := vw_fit_ok (o := fun m => if vw_cl S.2.2.2.2 false m tl = 0 then 8 else 10) (B := 123) (fun m => by
    try dsimp only
    by_cases c : vw_cl S.2.2.2.2 false m tl = 0
    · rw [if_pos c]
      exact ⟨Nat.le_refl _, fun z => absurd c z⟩
    · rw [if_neg c]
      exact ⟨by omega, fun _ => Nat.le_refl _⟩) (fit us [] rfl)
  have most := vz_most (by rw [List.length_map]; omega) ok
  have H := (tx [] List.Pairwise.nil (fun _ h => absurd h List.not_mem_nil)).2.1
  have F3 : vw_F S tl ≤ vw_H tl + vz_P (us.map (fun m => (vw_cl S.2.2.2.2 true m tl, vw_cl S.2.2.2.2 false m tl, vw_np (vw_bd S m)))) 6 := Nat.le_trans F1 (Nat.add_le_add_left F2 _)
  omega
end
section
/-! ===== the desk: grammar ===== -/
theorem w_gplace {CALL : sx_Ca} {sL : Nat} {sx : Nat → Int32} {Q : Nat → sx_L → sx_S → Prop} {R : Int → sx_S → Prop} (h_start : ∀ (t0 : Int) (s : sx_S) (K : Int → sx_S → Prop), cx_I s → (-2147483648 ≤ t0 ∧ t0 ≤ 2147483647) → (∀ z : Int, (-2147483648 ≤ z ∧ z ≤ 2147483647) → K z s) → CALL 102 [.inr (.inl 2), .inl t0] s K) {s : sx_S} (hI : cx_I s) (hK : ∀ z : Int, (-2147483648 ≤ z ∧ z ≤ 2147483647) → R z s) : sx_wp true sL sx eX2_place CALL [] Q R 400 0 (sx_argsF 0 [.inr (.inl 7)]) [] s := by
  repeat' (first | (with_reducible intro _) | (refine And.intro ?_ ?_) | (refine hK _ ?_) | (refine h_start _ _ _ ?_ ?_ ?_))
  all_goals (try dsimp only)
  repeat' (first | (with_reducible assumption) | ((with_reducible (change cx_I (sx_uf _ _ _ _, _))); refine cx_I_uf rfl rfl ?_ ?_ ?_) | ((with_reducible (change cx_I (_, sx_ua _ _ _ _, _))); refine cx_I_ua rfl rfl ?_ ?_ ?_) | ((with_reducible (change cx_I (_, sx_ua _ 16 _ _, _))); refine cx_I_ari ?_ ?_ ?_) | ((with_reducible (change cx_I (sx_uf _ 11 6 _, _))); refine cx_I_ufA rfl ?_ ?_ ?_ ?_) | (with_reducible exact cx_F_refl _ _) | ((with_reducible (change cx_F _ _ (sx_uf _ _ _ _, _))); refine cx_F_uf rfl ?_) | ((with_reducible (change cx_F _ _ (_, sx_ua _ _ _ _, _))); refine cx_F_ua rfl ?_) | ((with_reducible (change cx_I (_, sx_cpy _ _ _ _ _ _, _))); refine cx_I_cpy rfl rfl rfl (by decide) ?_) | ((with_reducible (change cx_F _ _ (_, sx_cpy _ _ _ _ _ _, _))); refine cx_F_cpy rfl ?_) | ((with_reducible (change cx_F _ _ _)); refine cx_F_step (by assumption) rfl ?_) | fail)
  all_goals (first | trivial | omega | (dsimp only at *; omega) | (simp only [sx_uf_if, sx_ua_if, sx_w_t, true_and, and_true, and_self, and_false, false_and, if_true, if_false, reduceIte] at *; omega) | (subst_vars; rfl) | (subst_vars; decide))

theorem c_gplace {sL : Nat} {sx : Nat → Int32} (hsL : sL ≤ 3072) (d : Nat) (hd : 3 ≤ d) : ∀ (s : sx_S) (K : Int → sx_S → Prop), cx_I s → (∀ z : Int, (-2147483648 ≤ z ∧ z ≤ 2147483647) → K z s) → sx_C sL sx d 36 [.inr (.inl 7)] s K := by
  intro  s K hI  hK
  obtain ⟨d, rfl⟩ : ∃ e, d = e + 2 := ⟨d - 2, by omega⟩
  exact sx_meth (wr := true) (n := 400) hsL (e := eX2_place) rfl (w_gplace (Q := fun _ _ _ => False) (c_start hsL (d + 1) (by omega)) hI  hK)

theorem w_takes {CALL : sx_Ca} {sL : Nat} {sx : Nat → Int32} {Q : Nat → sx_L → sx_S → Prop} {R : Int → sx_S → Prop} (h_kind : ∀ (t0 : Int) (s : sx_S) (K : Int → sx_S → Prop), cx_I s → (-2147483648 ≤ t0 ∧ t0 ≤ 2147483647) → (∀ z : Int, (-2147483648 ≤ z ∧ z ≤ 2147483647) → K z s) → CALL 101 [.inr (.inl 2), .inl t0] s K) {s : sx_S} {a0 : Int} (hI : cx_I s) (p0 : (-2147483648 ≤ a0 ∧ a0 ≤ 2147483647)) (hK : ∀ (z : Int) (t : sx_S), cx_I t → cx_F [(7, 7)] s t → (0 ≤ z ∧ z ≤ 1) → R z t) : sx_wp true sL sx eX2_takes CALL [] Q R 400 0 (sx_argsF 0 [.inr (.inl 7), .inl a0]) [] s := by
  repeat' (first | (with_reducible intro _) | (refine And.intro ?_ ?_) | (refine hK _ _ ?_ ?_ ?_) | (refine h_kind _ _ _ ?_ ?_ ?_))
  all_goals (try dsimp only)
  repeat' (first | (with_reducible assumption) | ((with_reducible (change cx_I (sx_uf _ _ _ _, _))); refine cx_I_uf rfl rfl ?_ ?_ ?_) | ((with_reducible (change cx_I (_, sx_ua _ _ _ _, _))); refine cx_I_ua rfl rfl ?_ ?_ ?_) | ((with_reducible (change cx_I (_, sx_ua _ 16 _ _, _))); refine cx_I_ari ?_ ?_ ?_) | ((with_reducible (change cx_I (sx_uf _ 11 6 _, _))); refine cx_I_ufA rfl ?_ ?_ ?_ ?_) | (with_reducible exact cx_F_refl _ _) | ((with_reducible (change cx_F _ _ (sx_uf _ _ _ _, _))); refine cx_F_uf rfl ?_) | ((with_reducible (change cx_F _ _ (_, sx_ua _ _ _ _, _))); refine cx_F_ua rfl ?_) | ((with_reducible (change cx_I (_, sx_cpy _ _ _ _ _ _, _))); refine cx_I_cpy rfl rfl rfl (by decide) ?_) | ((with_reducible (change cx_F _ _ (_, sx_cpy _ _ _ _ _ _, _))); refine cx_F_cpy rfl ?_) | ((with_reducible (change cx_F _ _ _)); refine cx_F_step (by assumption) rfl ?_) | fail)
  all_goals (first | trivial | omega | (dsimp only at *; omega) | (simp only [sx_uf_if, sx_ua_if, sx_w_t, true_and, and_true, and_self, and_false, false_and, if_true, if_false, reduceIte] at *; omega) | (subst_vars; rfl) | (subst_vars; decide))

theorem c_takes {sL : Nat} {sx : Nat → Int32} (hsL : sL ≤ 3072) (d : Nat) (hd : 3 ≤ d) : ∀ (a0 : Int) (s : sx_S) (K : Int → sx_S → Prop), cx_I s → (-2147483648 ≤ a0 ∧ a0 ≤ 2147483647) → (∀ (z : Int) (t : sx_S), cx_I t → cx_F [(7, 7)] s t → (0 ≤ z ∧ z ≤ 1) → K z t) → sx_C sL sx d 37 [.inr (.inl 7), .inl a0] s K := by
  intro a0 s K hI p0 hK
  obtain ⟨d, rfl⟩ : ∃ e, d = e + 2 := ⟨d - 2, by omega⟩
  exact sx_meth (wr := true) (n := 400) hsL (e := eX2_takes) rfl (w_takes (Q := fun _ _ _ => False) (c_kind hsL (d + 1) (by omega)) hI p0 hK)

theorem w_gatom0 {CALL : sx_Ca} {lo : Int} {sL : Nat} {sx : Nat → Int32} {Q : Nat → sx_L → sx_S → Prop} {R : Int → sx_S → Prop} (h_takes : ∀ (a0 : Int) (s : sx_S) (K : Int → sx_S → Prop), cx_I s → (-2147483648 ≤ a0 ∧ a0 ≤ 2147483647) → (∀ (z : Int) (t : sx_S), cx_I t → cx_F [(7, 7)] s t → (0 ≤ z ∧ z ≤ 1) → K z t) → CALL 37 [.inr (.inl 7), .inl a0] s K) (h_gtype1 : ∀ (a0 : Int) (s : sx_S) (K : Int → sx_S → Prop), cx_I s → (0 ≤ a0 ∧ a0 ≤ 21) → (lo + 1 ≤ a0) → (∀ (z : Int) (t : sx_S), cx_I t → cx_F [(7, 7)] s t → (0 ≤ z ∧ z ≤ 1) → K z t) → CALL 39 [.inr (.inl 7), .inl a0] s K) {s : sx_S} {a0 : Int} (hI : cx_I s) (p0 : (0 ≤ a0 ∧ a0 ≤ 20)) (p1 : (lo ≤ a0)) (hK : ∀ (z : Int) (t : sx_S), cx_I t → cx_F [(7, 7)] s t → (0 ≤ z ∧ z ≤ 1) → R z t) : sx_wp true sL sx eX2_atom CALL [] Q R 400 0 (sx_argsF 0 [.inr (.inl 7), .inl a0]) [] s := by
  repeat' (first | (with_reducible intro _) | (refine And.intro ?_ ?_) | (refine hK _ _ ?_ ?_ ?_) | (refine h_takes _ _ _ ?_ ?_ ?_) | (refine h_gtype1 _ _ _ ?_ ?_ ?_ ?_))
  all_goals (try dsimp only)
  repeat' (first | (with_reducible assumption) | ((with_reducible (change cx_I (sx_uf _ _ _ _, _))); refine cx_I_uf rfl rfl ?_ ?_ ?_) | ((with_reducible (change cx_I (_, sx_ua _ _ _ _, _))); refine cx_I_ua rfl rfl ?_ ?_ ?_) | ((with_reducible (change cx_I (_, sx_ua _ 16 _ _, _))); refine cx_I_ari ?_ ?_ ?_) | ((with_reducible (change cx_I (sx_uf _ 11 6 _, _))); refine cx_I_ufA rfl ?_ ?_ ?_ ?_) | (with_reducible exact cx_F_refl _ _) | ((with_reducible (change cx_F _ _ (sx_uf _ _ _ _, _))); refine cx_F_uf rfl ?_) | ((with_reducible (change cx_F _ _ (_, sx_ua _ _ _ _, _))); refine cx_F_ua rfl ?_) | ((with_reducible (change cx_I (_, sx_cpy _ _ _ _ _ _, _))); refine cx_I_cpy rfl rfl rfl (by decide) ?_) | ((with_reducible (change cx_F _ _ (_, sx_cpy _ _ _ _ _ _, _))); refine cx_F_cpy rfl ?_) | ((with_reducible (change cx_F _ _ _)); refine cx_F_step (by assumption) rfl ?_) | fail)
  all_goals (first | trivial | omega | (dsimp only at *; omega) | (simp only [sx_uf_if, sx_ua_if, sx_w_t, true_and, and_true, and_self, and_false, false_and, if_true, if_false, reduceIte] at *; omega) | (subst_vars; rfl) | (subst_vars; decide))

theorem st_gatom0 {lo : Int} {sL : Nat} {sx : Nat → Int32} (hsL : sL ≤ 3072) {d : Nat} (h_takes : ∀ (a0 : Int) (s : sx_S) (K : Int → sx_S → Prop), cx_I s → (-2147483648 ≤ a0 ∧ a0 ≤ 2147483647) → (∀ (z : Int) (t : sx_S), cx_I t → cx_F [(7, 7)] s t → (0 ≤ z ∧ z ≤ 1) → K z t) → sx_C sL sx (d + 1) 37 [.inr (.inl 7), .inl a0] s K) (h_gtype1 : ∀ (a0 : Int) (s : sx_S) (K : Int → sx_S → Prop), cx_I s → (0 ≤ a0 ∧ a0 ≤ 21) → (lo + 1 ≤ a0) → (∀ (z : Int) (t : sx_S), cx_I t → cx_F [(7, 7)] s t → (0 ≤ z ∧ z ≤ 1) → K z t) → sx_C sL sx (d + 1) 39 [.inr (.inl 7), .inl a0] s K) : ∀ (a0 : Int) (s : sx_S) (K : Int → sx_S → Prop), cx_I s → (0 ≤ a0 ∧ a0 ≤ 20) → (lo ≤ a0) → (∀ (z : Int) (t : sx_S), cx_I t → cx_F [(7, 7)] s t → (0 ≤ z ∧ z ≤ 1) → K z t) → sx_C sL sx (d + 2) 40 [.inr (.inl 7), .inl a0] s K := by
  intro a0 s K hI p0 p1 hK
  exact sx_meth (wr := true) (n := 400) hsL (e := eX2_atom) rfl (w_gatom0 (Q := fun _ _ _ => False) h_takes h_gtype1 hI p0 p1 hK)

theorem w_gtype0 {CALL : sx_Ca} {lo : Int} {sL : Nat} {sx : Nat → Int32} {Q : Nat → sx_L → sx_S → Prop} {R : Int → sx_S → Prop} (h_takes : ∀ (a0 : Int) (s : sx_S) (K : Int → sx_S → Prop), cx_I s → (-2147483648 ≤ a0 ∧ a0 ≤ 2147483647) → (∀ (z : Int) (t : sx_S), cx_I t → cx_F [(7, 7)] s t → (0 ≤ z ∧ z ≤ 1) → K z t) → CALL 37 [.inr (.inl 7), .inl a0] s K) (h_gatom0 : ∀ (a0 : Int) (s : sx_S) (K : Int → sx_S → Prop), cx_I s → (0 ≤ a0 ∧ a0 ≤ 20) → (lo ≤ a0) → (∀ (z : Int) (t : sx_S), cx_I t → cx_F [(7, 7)] s t → (0 ≤ z ∧ z ≤ 1) → K z t) → CALL 40 [.inr (.inl 7), .inl a0] s K) (h_gtype1 : ∀ (a0 : Int) (s : sx_S) (K : Int → sx_S → Prop), cx_I s → (0 ≤ a0 ∧ a0 ≤ 21) → (lo + 1 ≤ a0) → (∀ (z : Int) (t : sx_S), cx_I t → cx_F [(7, 7)] s t → (0 ≤ z ∧ z ≤ 1) → K z t) → CALL 39 [.inr (.inl 7), .inl a0] s K) {s : sx_S} {a0 : Int} (hI : cx_I s) (p0 : (0 ≤ a0 ∧ a0 ≤ 21)) (p1 : (lo ≤ a0)) (hK : ∀ (z : Int) (t : sx_S), cx_I t → cx_F [(7, 7)] s t → (0 ≤ z ∧ z ≤ 1) → R z t) : sx_wp true sL sx eX2_type CALL [] Q R 400 0 (sx_argsF 0 [.inr (.inl 7), .inl a0]) [] s := by
  repeat' (first | (with_reducible intro _) | (refine And.intro ?_ ?_) | (refine hK _ _ ?_ ?_ ?_) | (refine h_takes _ _ _ ?_ ?_ ?_) | (refine h_gatom0 _ _ _ ?_ ?_ ?_ ?_) | (refine h_gtype1 _ _ _ ?_ ?_ ?_ ?_))
  all_goals (try dsimp only)
  repeat' (first | (with_reducible assumption) | ((with_reducible (change cx_I (sx_uf _ _ _ _, _))); refine cx_I_uf rfl rfl ?_ ?_ ?_) | ((with_reducible (change cx_I (_, sx_ua _ _ _ _, _))); refine cx_I_ua rfl rfl ?_ ?_ ?_) | ((with_reducible (change cx_I (_, sx_ua _ 16 _ _, _))); refine cx_I_ari ?_ ?_ ?_) | ((with_reducible (change cx_I (sx_uf _ 11 6 _, _))); refine cx_I_ufA rfl ?_ ?_ ?_ ?_) | (with_reducible exact cx_F_refl _ _) | ((with_reducible (change cx_F _ _ (sx_uf _ _ _ _, _))); refine cx_F_uf rfl ?_) | ((with_reducible (change cx_F _ _ (_, sx_ua _ _ _ _, _))); refine cx_F_ua rfl ?_) | ((with_reducible (change cx_I (_, sx_cpy _ _ _ _ _ _, _))); refine cx_I_cpy rfl rfl rfl (by decide) ?_) | ((with_reducible (change cx_F _ _ (_, sx_cpy _ _ _ _ _ _, _))); refine cx_F_cpy rfl ?_) | ((with_reducible (change cx_F _ _ _)); refine cx_F_step (by assumption) rfl ?_) | fail)
  all_goals (first | trivial | omega | (dsimp only at *; omega) | (simp only [sx_uf_if, sx_ua_if, sx_w_t, true_and, and_true, and_self, and_false, false_and, if_true, if_false, reduceIte] at *; omega) | (subst_vars; rfl) | (subst_vars; decide))

theorem st_gtype0 {lo : Int} {sL : Nat} {sx : Nat → Int32} (hsL : sL ≤ 3072) {d : Nat} (h_takes : ∀ (a0 : Int) (s : sx_S) (K : Int → sx_S → Prop), cx_I s → (-2147483648 ≤ a0 ∧ a0 ≤ 2147483647) → (∀ (z : Int) (t : sx_S), cx_I t → cx_F [(7, 7)] s t → (0 ≤ z ∧ z ≤ 1) → K z t) → sx_C sL sx (d + 1) 37 [.inr (.inl 7), .inl a0] s K) (h_gatom0 : ∀ (a0 : Int) (s : sx_S) (K : Int → sx_S → Prop), cx_I s → (0 ≤ a0 ∧ a0 ≤ 20) → (lo ≤ a0) → (∀ (z : Int) (t : sx_S), cx_I t → cx_F [(7, 7)] s t → (0 ≤ z ∧ z ≤ 1) → K z t) → sx_C sL sx (d + 1) 40 [.inr (.inl 7), .inl a0] s K) (h_gtype1 : ∀ (a0 : Int) (s : sx_S) (K : Int → sx_S → Prop), cx_I s → (0 ≤ a0 ∧ a0 ≤ 21) → (lo + 1 ≤ a0) → (∀ (z : Int) (t : sx_S), cx_I t → cx_F [(7, 7)] s t → (0 ≤ z ∧ z ≤ 1) → K z t) → sx_C sL sx (d + 1) 39 [.inr (.inl 7), .inl a0] s K) : ∀ (a0 : Int) (s : sx_S) (K : Int → sx_S → Prop), cx_I s → (0 ≤ a0 ∧ a0 ≤ 21) → (lo ≤ a0) → (∀ (z : Int) (t : sx_S), cx_I t → cx_F [(7, 7)] s t → (0 ≤ z ∧ z ≤ 1) → K z t) → sx_C sL sx (d + 2) 39 [.inr (.inl 7), .inl a0] s K := by
  intro a0 s K hI p0 p1 hK
  exact sx_meth (wr := true) (n := 400) hsL (e := eX2_type) rfl (w_gtype0 (Q := fun _ _ _ => False) h_takes h_gatom0 h_gtype1 hI p0 p1 hK)

theorem w_gargs0 {CALL : sx_Ca} {lo : Int} {sL : Nat} {sx : Nat → Int32} {Q : Nat → sx_L → sx_S → Prop} {R : Int → sx_S → Prop} (h_takes : ∀ (a0 : Int) (s : sx_S) (K : Int → sx_S → Prop), cx_I s → (-2147483648 ≤ a0 ∧ a0 ≤ 2147483647) → (∀ (z : Int) (t : sx_S), cx_I t → cx_F [(7, 7)] s t → (0 ≤ z ∧ z ≤ 1) → K z t) → CALL 37 [.inr (.inl 7), .inl a0] s K) (h_gterm1 : ∀ (a0 : Int) (s : sx_S) (K : Int → sx_S → Prop), cx_I s → (0 ≤ a0 ∧ a0 ≤ 21) → (lo + 1 ≤ a0) → (∀ (z : Int) (t : sx_S), cx_I t → cx_F [(7, 7)] s t → (0 ≤ z ∧ z ≤ 1) → K z t) → CALL 41 [.inr (.inl 7), .inl a0] s K) {s : sx_S} {a0 : Int} (hI : cx_I s) (p0 : (0 ≤ a0 ∧ a0 ≤ 20)) (p1 : (lo ≤ a0)) (hK : ∀ (z : Int) (t : sx_S), cx_I t → cx_F [(7, 7)] s t → (0 ≤ z ∧ z ≤ 1) → R z t) (hQ7 : ∀ (x1 x2 x3 x4 : Int) (t : sx_S), cx_I t → cx_F [(7, 7)] s t → (0 ≤ x1 ∧ x1 ≤ 20) → (0 ≤ x2 ∧ x2 ≤ 1) → (0 ≤ x3 ∧ x3 ≤ 1) → (-2147483648 ≤ x4 ∧ x4 ≤ 2147483647) → (lo ≤ x1) → Q 7 [(0, .inr (.inl 7)), (1, .inl x1), (2, .inl x2), (3, .inl x3), (4, .inl x4)] t) : sx_wp true sL sx eX2_arguments CALL [(7, [0, 1, 2, 3, 4])] Q R 400 0 (sx_argsF 0 [.inr (.inl 7), .inl a0]) [] s := by
  repeat' (first | (with_reducible intro _) | (refine And.intro ?_ ?_) | (refine hK _ _ ?_ ?_ ?_) | (refine h_takes _ _ _ ?_ ?_ ?_) | (refine h_gterm1 _ _ _ ?_ ?_ ?_ ?_) | (refine hQ7 _ _ _ _ _ ?_ ?_ ?_ ?_ ?_ ?_ ?_))
  all_goals (try dsimp only)
  repeat' (first | (with_reducible assumption) | ((with_reducible (change cx_I (sx_uf _ _ _ _, _))); refine cx_I_uf rfl rfl ?_ ?_ ?_) | ((with_reducible (change cx_I (_, sx_ua _ _ _ _, _))); refine cx_I_ua rfl rfl ?_ ?_ ?_) | ((with_reducible (change cx_I (_, sx_ua _ 16 _ _, _))); refine cx_I_ari ?_ ?_ ?_) | ((with_reducible (change cx_I (sx_uf _ 11 6 _, _))); refine cx_I_ufA rfl ?_ ?_ ?_ ?_) | (with_reducible exact cx_F_refl _ _) | ((with_reducible (change cx_F _ _ (sx_uf _ _ _ _, _))); refine cx_F_uf rfl ?_) | ((with_reducible (change cx_F _ _ (_, sx_ua _ _ _ _, _))); refine cx_F_ua rfl ?_) | ((with_reducible (change cx_I (_, sx_cpy _ _ _ _ _ _, _))); refine cx_I_cpy rfl rfl rfl (by decide) ?_) | ((with_reducible (change cx_F _ _ (_, sx_cpy _ _ _ _ _ _, _))); refine cx_F_cpy rfl ?_) | ((with_reducible (change cx_F _ _ _)); refine cx_F_step (by assumption) rfl ?_) | fail)
  all_goals (first | trivial | omega | (dsimp only at *; omega) | (simp only [sx_uf_if, sx_ua_if, sx_w_t, true_and, and_true, and_self, and_false, false_and, if_true, if_false, reduceIte] at *; omega) | (subst_vars; rfl) | (subst_vars; decide))

theorem w_gargs0_7 {CALL : sx_Ca} {lo : Int} {sL : Nat} {sx : Nat → Int32} {Q : Nat → sx_L → sx_S → Prop} {R : Int → sx_S → Prop} (h_takes : ∀ (a0 : Int) (s : sx_S) (K : Int → sx_S → Prop), cx_I s → (-2147483648 ≤ a0 ∧ a0 ≤ 2147483647) → (∀ (z : Int) (t : sx_S), cx_I t → cx_F [(7, 7)] s t → (0 ≤ z ∧ z ≤ 1) → K z t) → CALL 37 [.inr (.inl 7), .inl a0] s K) (h_gterm1 : ∀ (a0 : Int) (s : sx_S) (K : Int → sx_S → Prop), cx_I s → (0 ≤ a0 ∧ a0 ≤ 21) → (lo + 1 ≤ a0) → (∀ (z : Int) (t : sx_S), cx_I t → cx_F [(7, 7)] s t → (0 ≤ z ∧ z ≤ 1) → K z t) → CALL 41 [.inr (.inl 7), .inl a0] s K) {s : sx_S} {a0 : Int} (hI : cx_I s) (p0 : (0 ≤ a0 ∧ a0 ≤ 20)) (p1 : (lo ≤ a0)) (hK : ∀ (z : Int) (t : sx_S), cx_I t → cx_F [(7, 7)] s t → (0 ≤ z ∧ z ≤ 1) → R z t) {t : sx_S} (hJ : cx_I t) (hF : cx_F [(7, 7)] s t) {x1 x2 x3 x4 : Int} {mm : Nat} (hm : mm = 17179869184 + (2147483647 - x4).toNat) (i0 : (0 ≤ x1 ∧ x1 ≤ 20)) (i1 : (0 ≤ x2 ∧ x2 ≤ 1)) (i2 : (0 ≤ x3 ∧ x3 ≤ 1)) (i3 : (-2147483648 ≤ x4 ∧ x4 ≤ 2147483647)) (i4 : (lo ≤ x1)) (hQ7 : ∀ (x1 x2 x3 x4 : Int) (t : sx_S), cx_I t → cx_F [(7, 7)] s t → (0 ≤ x1 ∧ x1 ≤ 20) → (0 ≤ x2 ∧ x2 ≤ 1) → (0 ≤ x3 ∧ x3 ≤ 1) → (-2147483648 ≤ x4 ∧ x4 ≤ 2147483647) → (lo ≤ x1) → (17179869184 + (2147483647 - x4).toNat < mm) → Q 7 [(0, .inr (.inl 7)), (1, .inl x1), (2, .inl x2), (3, .inl x3), (4, .inl x4)] t) : sx_wp true sL sx eX2_arguments CALL [(7, [0, 1, 2, 3, 4])] Q R 400 7 [(0, .inr (.inl 7)), (1, .inl x1), (2, .inl x2), (3, .inl x3), (4, .inl x4)] [] t := by
  repeat' (first | (with_reducible intro _) | (refine And.intro ?_ ?_) | (refine hK _ _ ?_ ?_ ?_) | (refine h_takes _ _ _ ?_ ?_ ?_) | (refine h_gterm1 _ _ _ ?_ ?_ ?_ ?_) | (refine hQ7 _ _ _ _ _ ?_ ?_ ?_ ?_ ?_ ?_ ?_ ?_))
  all_goals (try dsimp only)
  repeat' (first | (with_reducible assumption) | ((with_reducible (change cx_I (sx_uf _ _ _ _, _))); refine cx_I_uf rfl rfl ?_ ?_ ?_) | ((with_reducible (change cx_I (_, sx_ua _ _ _ _, _))); refine cx_I_ua rfl rfl ?_ ?_ ?_) | ((with_reducible (change cx_I (_, sx_ua _ 16 _ _, _))); refine cx_I_ari ?_ ?_ ?_) | ((with_reducible (change cx_I (sx_uf _ 11 6 _, _))); refine cx_I_ufA rfl ?_ ?_ ?_ ?_) | (with_reducible exact cx_F_refl _ _) | ((with_reducible (change cx_F _ _ (sx_uf _ _ _ _, _))); refine cx_F_uf rfl ?_) | ((with_reducible (change cx_F _ _ (_, sx_ua _ _ _ _, _))); refine cx_F_ua rfl ?_) | ((with_reducible (change cx_I (_, sx_cpy _ _ _ _ _ _, _))); refine cx_I_cpy rfl rfl rfl (by decide) ?_) | ((with_reducible (change cx_F _ _ (_, sx_cpy _ _ _ _ _ _, _))); refine cx_F_cpy rfl ?_) | ((with_reducible (change cx_F _ _ _)); refine cx_F_step (by assumption) rfl ?_) | fail)
  all_goals (first | trivial | omega | (dsimp only at *; omega) | (simp only [sx_uf_if, sx_ua_if, sx_w_t, true_and, and_true, and_self, and_false, false_and, if_true, if_false, reduceIte] at *; omega) | (subst_vars; rfl) | (subst_vars; decide))

theorem st_gargs0 {lo : Int} {sL : Nat} {sx : Nat → Int32} (hsL : sL ≤ 3072) {d : Nat} (h_takes : ∀ (a0 : Int) (s : sx_S) (K : Int → sx_S → Prop), cx_I s → (-2147483648 ≤ a0 ∧ a0 ≤ 2147483647) → (∀ (z : Int) (t : sx_S), cx_I t → cx_F [(7, 7)] s t → (0 ≤ z ∧ z ≤ 1) → K z t) → sx_C sL sx (d + 1) 37 [.inr (.inl 7), .inl a0] s K) (h_gterm1 : ∀ (a0 : Int) (s : sx_S) (K : Int → sx_S → Prop), cx_I s → (0 ≤ a0 ∧ a0 ≤ 21) → (lo + 1 ≤ a0) → (∀ (z : Int) (t : sx_S), cx_I t → cx_F [(7, 7)] s t → (0 ≤ z ∧ z ≤ 1) → K z t) → sx_C sL sx (d + 1) 41 [.inr (.inl 7), .inl a0] s K) : ∀ (a0 : Int) (s : sx_S) (K : Int → sx_S → Prop), cx_I s → (0 ≤ a0 ∧ a0 ≤ 20) → (lo ≤ a0) → (∀ (z : Int) (t : sx_S), cx_I t → cx_F [(7, 7)] s t → (0 ≤ z ∧ z ≤ 1) → K z t) → sx_C sL sx (d + 2) 42 [.inr (.inl 7), .inl a0] s K := by
  intro a0 s K hI p0 p1 hK
  refine sx_methL (wr := true) (n := 400) (n' := 400) (stop := [(7, [0, 1, 2, 3, 4])]) (fun n pc ls u => (pc = 7 ∧ ∃ (x1 x2 x3 x4 : Int), ls = [(0, .inr (.inl 7)), (1, .inl x1), (2, .inl x2), (3, .inl x3), (4, .inl x4)] ∧ cx_I u ∧ cx_F [(7, 7)] s u ∧ (0 ≤ x1 ∧ x1 ≤ 20) ∧ (0 ≤ x2 ∧ x2 ≤ 1) ∧ (0 ≤ x3 ∧ x3 ≤ 1) ∧ (-2147483648 ≤ x4 ∧ x4 ≤ 2147483647) ∧ (lo ≤ x1) ∧ n = 17179869184 + (2147483647 - x4).toNat)) hsL (e := eX2_arguments) rfl ?_ ?_
  · exact w_gargs0 h_takes h_gterm1 hI p0 p1 hK (fun x1 x2 x3 x4 u j1 j2 i0 i1 i2 i3 i4 => ⟨_, ⟨rfl, x1, x2, x3, x4, rfl, j1, j2, i0, i1, i2, i3, i4, rfl⟩⟩)
  · rintro n pc ls u (⟨rfl, x1, x2, x3, x4, rfl, j1, j2, i0, i1, i2, i3, i4, rfl⟩)
    · exact w_gargs0_7 h_takes h_gterm1 hI p0 p1 hK j1 j2 rfl i0 i1 i2 i3 i4 (fun x1 x2 x3 x4 u j1 j2 i0 i1 i2 i3 i4 hm => ⟨_, hm, ⟨rfl, x1, x2, x3, x4, rfl, j1, j2, i0, i1, i2, i3, i4, rfl⟩⟩)

theorem w_gterm0 {CALL : sx_Ca} {lo : Int} {sL : Nat} {sx : Nat → Int32} {Q : Nat → sx_L → sx_S → Prop} {R : Int → sx_S → Prop} (h_takes : ∀ (a0 : Int) (s : sx_S) (K : Int → sx_S → Prop), cx_I s → (-2147483648 ≤ a0 ∧ a0 ≤ 2147483647) → (∀ (z : Int) (t : sx_S), cx_I t → cx_F [(7, 7)] s t → (0 ≤ z ∧ z ≤ 1) → K z t) → CALL 37 [.inr (.inl 7), .inl a0] s K) (h_gargs0 : ∀ (a0 : Int) (s : sx_S) (K : Int → sx_S → Prop), cx_I s → (0 ≤ a0 ∧ a0 ≤ 20) → (lo ≤ a0) → (∀ (z : Int) (t : sx_S), cx_I t → cx_F [(7, 7)] s t → (0 ≤ z ∧ z ≤ 1) → K z t) → CALL 42 [.inr (.inl 7), .inl a0] s K) (h_gtype1 : ∀ (a0 : Int) (s : sx_S) (K : Int → sx_S → Prop), cx_I s → (0 ≤ a0 ∧ a0 ≤ 21) → (lo + 1 ≤ a0) → (∀ (z : Int) (t : sx_S), cx_I t → cx_F [(7, 7)] s t → (0 ≤ z ∧ z ≤ 1) → K z t) → CALL 39 [.inr (.inl 7), .inl a0] s K) (h_gterm1 : ∀ (a0 : Int) (s : sx_S) (K : Int → sx_S → Prop), cx_I s → (0 ≤ a0 ∧ a0 ≤ 21) → (lo + 1 ≤ a0) → (∀ (z : Int) (t : sx_S), cx_I t → cx_F [(7, 7)] s t → (0 ≤ z ∧ z ≤ 1) → K z t) → CALL 41 [.inr (.inl 7), .inl a0] s K) {s : sx_S} {a0 : Int} (hI : cx_I s) (p0 : (0 ≤ a0 ∧ a0 ≤ 21)) (p1 : (lo ≤ a0)) (hK : ∀ (z : Int) (t : sx_S), cx_I t → cx_F [(7, 7)] s t → (0 ≤ z ∧ z ≤ 1) → R z t) : sx_wp true sL sx eX2_term CALL [] Q R 400 0 (sx_argsF 0 [.inr (.inl 7), .inl a0]) [] s := by
  repeat' (first | (with_reducible intro _) | (refine And.intro ?_ ?_) | (refine hK _ _ ?_ ?_ ?_) | (refine h_takes _ _ _ ?_ ?_ ?_) | (refine h_gargs0 _ _ _ ?_ ?_ ?_ ?_) | (refine h_gtype1 _ _ _ ?_ ?_ ?_ ?_) | (refine h_gterm1 _ _ _ ?_ ?_ ?_ ?_))
  all_goals (try dsimp only)
  repeat' (first | (with_reducible assumption) | ((with_reducible (change cx_I (sx_uf _ _ _ _, _))); refine cx_I_uf rfl rfl ?_ ?_ ?_) | ((with_reducible (change cx_I (_, sx_ua _ _ _ _, _))); refine cx_I_ua rfl rfl ?_ ?_ ?_) | ((with_reducible (change cx_I (_, sx_ua _ 16 _ _, _))); refine cx_I_ari ?_ ?_ ?_) | ((with_reducible (change cx_I (sx_uf _ 11 6 _, _))); refine cx_I_ufA rfl ?_ ?_ ?_ ?_) | (with_reducible exact cx_F_refl _ _) | ((with_reducible (change cx_F _ _ (sx_uf _ _ _ _, _))); refine cx_F_uf rfl ?_) | ((with_reducible (change cx_F _ _ (_, sx_ua _ _ _ _, _))); refine cx_F_ua rfl ?_) | ((with_reducible (change cx_I (_, sx_cpy _ _ _ _ _ _, _))); refine cx_I_cpy rfl rfl rfl (by decide) ?_) | ((with_reducible (change cx_F _ _ (_, sx_cpy _ _ _ _ _ _, _))); refine cx_F_cpy rfl ?_) | ((with_reducible (change cx_F _ _ _)); refine cx_F_step (by assumption) rfl ?_) | fail)
  all_goals (first | trivial | omega | (dsimp only at *; omega) | (simp only [sx_uf_if, sx_ua_if, sx_w_t, true_and, and_true, and_self, and_false, false_and, if_true, if_false, reduceIte] at *; omega) | (subst_vars; rfl) | (subst_vars; decide))

theorem st_gterm0 {lo : Int} {sL : Nat} {sx : Nat → Int32} (hsL : sL ≤ 3072) {d : Nat} (h_takes : ∀ (a0 : Int) (s : sx_S) (K : Int → sx_S → Prop), cx_I s → (-2147483648 ≤ a0 ∧ a0 ≤ 2147483647) → (∀ (z : Int) (t : sx_S), cx_I t → cx_F [(7, 7)] s t → (0 ≤ z ∧ z ≤ 1) → K z t) → sx_C sL sx (d + 1) 37 [.inr (.inl 7), .inl a0] s K) (h_gargs0 : ∀ (a0 : Int) (s : sx_S) (K : Int → sx_S → Prop), cx_I s → (0 ≤ a0 ∧ a0 ≤ 20) → (lo ≤ a0) → (∀ (z : Int) (t : sx_S), cx_I t → cx_F [(7, 7)] s t → (0 ≤ z ∧ z ≤ 1) → K z t) → sx_C sL sx (d + 1) 42 [.inr (.inl 7), .inl a0] s K) (h_gtype1 : ∀ (a0 : Int) (s : sx_S) (K : Int → sx_S → Prop), cx_I s → (0 ≤ a0 ∧ a0 ≤ 21) → (lo + 1 ≤ a0) → (∀ (z : Int) (t : sx_S), cx_I t → cx_F [(7, 7)] s t → (0 ≤ z ∧ z ≤ 1) → K z t) → sx_C sL sx (d + 1) 39 [.inr (.inl 7), .inl a0] s K) (h_gterm1 : ∀ (a0 : Int) (s : sx_S) (K : Int → sx_S → Prop), cx_I s → (0 ≤ a0 ∧ a0 ≤ 21) → (lo + 1 ≤ a0) → (∀ (z : Int) (t : sx_S), cx_I t → cx_F [(7, 7)] s t → (0 ≤ z ∧ z ≤ 1) → K z t) → sx_C sL sx (d + 1) 41 [.inr (.inl 7), .inl a0] s K) : ∀ (a0 : Int) (s : sx_S) (K : Int → sx_S → Prop), cx_I s → (0 ≤ a0 ∧ a0 ≤ 21) → (lo ≤ a0) → (∀ (z : Int) (t : sx_S), cx_I t → cx_F [(7, 7)] s t → (0 ≤ z ∧ z ≤ 1) → K z t) → sx_C sL sx (d + 2) 41 [.inr (.inl 7), .inl a0] s K := by
  intro a0 s K hI p0 p1 hK
  exact sx_meth (wr := true) (n := 400) hsL (e := eX2_term) rfl (w_gterm0 (Q := fun _ _ _ => False) h_takes h_gargs0 h_gtype1 h_gterm1 hI p0 p1 hK)

theorem c_gram {sL : Nat} {sx : Nat → Int32} (hsL : sL ≤ 3072) : ∀ (N : Nat) (lo : Int), lo = 22 - (N : Int) → ∀ d, 10 + 3 * N ≤ d → (∀ (a0 : Int) (s : sx_S) (K : Int → sx_S → Prop), cx_I s → (0 ≤ a0 ∧ a0 ≤ 21) → (lo ≤ a0) → (∀ (z : Int) (t : sx_S), cx_I t → cx_F [(7, 7)] s t → (0 ≤ z ∧ z ≤ 1) → K z t) → sx_C sL sx d 39 [.inr (.inl 7), .inl a0] s K) ∧ (∀ (a0 : Int) (s : sx_S) (K : Int → sx_S → Prop), cx_I s → (0 ≤ a0 ∧ a0 ≤ 20) → (lo ≤ a0) → (∀ (z : Int) (t : sx_S), cx_I t → cx_F [(7, 7)] s t → (0 ≤ z ∧ z ≤ 1) → K z t) → sx_C sL sx d 40 [.inr (.inl 7), .inl a0] s K) ∧ (∀ (a0 : Int) (s : sx_S) (K : Int → sx_S → Prop), cx_I s → (0 ≤ a0 ∧ a0 ≤ 21) → (lo ≤ a0) → (∀ (z : Int) (t : sx_S), cx_I t → cx_F [(7, 7)] s t → (0 ≤ z ∧ z ≤ 1) → K z t) → sx_C sL sx d 41 [.inr (.inl 7), .inl a0] s K) ∧ (∀ (a0 : Int) (s : sx_S) (K : Int → sx_S → Prop), cx_I s → (0 ≤ a0 ∧ a0 ≤ 20) → (lo ≤ a0) → (∀ (z : Int) (t : sx_S), cx_I t → cx_F [(7, 7)] s t → (0 ≤ z ∧ z ≤ 1) → K z t) → sx_C sL sx d 42 [.inr (.inl 7), .inl a0] s K) := by
  intro N
  induction N with
  | zero =>
    intro lo hlo d hd
    refine ⟨?_, ?_, ?_, ?_⟩ <;> (intro a0 s K hI p0 p1 hK; exact absurd p1 (by omega))
  | succ N ih =>
    intro lo hlo d hd
    have up : ∀ e, 10 + 3 * N ≤ e → (∀ (a0 : Int) (s : sx_S) (K : Int → sx_S → Prop), cx_I s → (0 ≤ a0 ∧ a0 ≤ 21) → (lo + 1 ≤ a0) → (∀ (z : Int) (t : sx_S), cx_I t → cx_F [(7, 7)] s t → (0 ≤ z ∧ z ≤ 1) → K z t) → sx_C sL sx e 39 [.inr (.inl 7), .inl a0] s K) ∧ (∀ (a0 : Int) (s : sx_S) (K : Int → sx_S → Prop), cx_I s → (0 ≤ a0 ∧ a0 ≤ 20) → (lo + 1 ≤ a0) → (∀ (z : Int) (t : sx_S), cx_I t → cx_F [(7, 7)] s t → (0 ≤ z ∧ z ≤ 1) → K z t) → sx_C sL sx e 40 [.inr (.inl 7), .inl a0] s K) ∧ (∀ (a0 : Int) (s : sx_S) (K : Int → sx_S → Prop), cx_I s → (0 ≤ a0 ∧ a0 ≤ 21) → (lo + 1 ≤ a0) → (∀ (z : Int) (t : sx_S), cx_I t → cx_F [(7, 7)] s t → (0 ≤ z ∧ z ≤ 1) → K z t) → sx_C sL sx e 41 [.inr (.inl 7), .inl a0] s K) ∧ (∀ (a0 : Int) (s : sx_S) (K : Int → sx_S → Prop), cx_I s → (0 ≤ a0 ∧ a0 ≤ 20) → (lo + 1 ≤ a0) → (∀ (z : Int) (t : sx_S), cx_I t → cx_F [(7, 7)] s t → (0 ≤ z ∧ z ≤ 1) → K z t) → sx_C sL sx e 42 [.inr (.inl 7), .inl a0] s K) := fun e he => ih (lo + 1) (by omega) e he
    have atom : ∀ e, 11 + 3 * N ≤ e → (∀ (a0 : Int) (s : sx_S) (K : Int → sx_S → Prop), cx_I s → (0 ≤ a0 ∧ a0 ≤ 20) → (lo ≤ a0) → (∀ (z : Int) (t : sx_S), cx_I t → cx_F [(7, 7)] s t → (0 ≤ z ∧ z ≤ 1) → K z t) → sx_C sL sx e 40 [.inr (.inl 7), .inl a0] s K) := fun e he => by
      obtain ⟨e, rfl⟩ : ∃ q, e = q + 2 := ⟨e - 2, by omega⟩
      exact st_gatom0 hsL (c_takes hsL (e + 1) (by omega)) (up (e + 1) (by omega)).1
    have args : ∀ e, 11 + 3 * N ≤ e → (∀ (a0 : Int) (s : sx_S) (K : Int → sx_S → Prop), cx_I s → (0 ≤ a0 ∧ a0 ≤ 20) → (lo ≤ a0) → (∀ (z : Int) (t : sx_S), cx_I t → cx_F [(7, 7)] s t → (0 ≤ z ∧ z ≤ 1) → K z t) → sx_C sL sx e 42 [.inr (.inl 7), .inl a0] s K) := fun e he => by
      obtain ⟨e, rfl⟩ : ∃ q, e = q + 2 := ⟨e - 2, by omega⟩
      exact st_gargs0 hsL (c_takes hsL (e + 1) (by omega)) (up (e + 1) (by omega)).2.2.1
    obtain ⟨e, rfl⟩ : ∃ q, d = q + 2 := ⟨d - 2, by omega⟩
    refine ⟨st_gtype0 hsL (c_takes hsL (e + 1) (by omega)) (atom (e + 1) (by omega)) (up (e + 1) (by omega)).1, atom _ (by omega), st_gterm0 hsL (c_takes hsL (e + 1) (by omega)) (args (e + 1) (by omega)) (up (e + 1) (by omega)).1 (up (e + 1) (by omega)).2.2.1, args _ (by omega)⟩

theorem c_gtype {sL : Nat} {sx : Nat → Int32} (hsL : sL ≤ 3072) (d : Nat) (hd : 76 ≤ d) : ∀ (a0 : Int) (s : sx_S) (K : Int → sx_S → Prop), cx_I s → (0 ≤ a0 ∧ a0 ≤ 0) → (∀ (z : Int) (t : sx_S), cx_I t → cx_F [(7, 7)] s t → (0 ≤ z ∧ z ≤ 1) → K z t) → sx_C sL sx d 39 [.inr (.inl 7), .inl a0] s K := fun a0 s K hI p0 hK => (c_gram hsL 22 0 rfl d (by omega)).1 a0 s K hI (by omega) (by omega) hK

theorem c_gterm {sL : Nat} {sx : Nat → Int32} (hsL : sL ≤ 3072) (d : Nat) (hd : 76 ≤ d) : ∀ (a0 : Int) (s : sx_S) (K : Int → sx_S → Prop), cx_I s → (0 ≤ a0 ∧ a0 ≤ 0) → (∀ (z : Int) (t : sx_S), cx_I t → cx_F [(7, 7)] s t → (0 ≤ z ∧ z ≤ 1) → K z t) → sx_C sL sx d 41 [.inr (.inl 7), .inl a0] s K := fun a0 s K hI p0 hK => (c_gram hsL 22 0 rfl d (by omega)).2.2.1 a0 s K hI (by omega) (by omega) hK

theorem w_gitem {CALL : sx_Ca} {sL : Nat} {sx : Nat → Int32} {Q : Nat → sx_L → sx_S → Prop} {R : Int → sx_S → Prop} (h_takes : ∀ (a0 : Int) (s : sx_S) (K : Int → sx_S → Prop), cx_I s → (-2147483648 ≤ a0 ∧ a0 ≤ 2147483647) → (∀ (z : Int) (t : sx_S), cx_I t → cx_F [(7, 7)] s t → (0 ≤ z ∧ z ≤ 1) → K z t) → CALL 37 [.inr (.inl 7), .inl a0] s K) (h_gtype : ∀ (a0 : Int) (s : sx_S) (K : Int → sx_S → Prop), cx_I s → (0 ≤ a0 ∧ a0 ≤ 0) → (∀ (z : Int) (t : sx_S), cx_I t → cx_F [(7, 7)] s t → (0 ≤ z ∧ z ≤ 1) → K z t) → CALL 39 [.inr (.inl 7), .inl a0] s K) (h_gterm : ∀ (a0 : Int) (s : sx_S) (K : Int → sx_S → Prop), cx_I s → (0 ≤ a0 ∧ a0 ≤ 0) → (∀ (z : Int) (t : sx_S), cx_I t → cx_F [(7, 7)] s t → (0 ≤ z ∧ z ≤ 1) → K z t) → CALL 41 [.inr (.inl 7), .inl a0] s K) {s : sx_S} (hI : cx_I s) (hK : ∀ (z : Int) (t : sx_S), cx_I t → cx_F [(7, 7)] s t → (0 ≤ z ∧ z ≤ 1) → R z t) : sx_wp true sL sx eX2_item CALL [] Q R 400 0 (sx_argsF 0 [.inr (.inl 7)]) [] s := by
  repeat' (first | (with_reducible intro _) | (refine And.intro ?_ ?_) | (refine hK _ _ ?_ ?_ ?_) | (refine h_takes _ _ _ ?_ ?_ ?_) | (refine h_gtype _ _ _ ?_ ?_ ?_) | (refine h_gterm _ _ _ ?_ ?_ ?_))
  all_goals (try dsimp only)
  repeat' (first | (with_reducible assumption) | ((with_reducible (change cx_I (sx_uf _ _ _ _, _))); refine cx_I_uf rfl rfl ?_ ?_ ?_) | ((with_reducible (change cx_I (_, sx_ua _ _ _ _, _))); refine cx_I_ua rfl rfl ?_ ?_ ?_) | ((with_reducible (change cx_I (_, sx_ua _ 16 _ _, _))); refine cx_I_ari ?_ ?_ ?_) | ((with_reducible (change cx_I (sx_uf _ 11 6 _, _))); refine cx_I_ufA rfl ?_ ?_ ?_ ?_) | (with_reducible exact cx_F_refl _ _) | ((with_reducible (change cx_F _ _ (sx_uf _ _ _ _, _))); refine cx_F_uf rfl ?_) | ((with_reducible (change cx_F _ _ (_, sx_ua _ _ _ _, _))); refine cx_F_ua rfl ?_) | ((with_reducible (change cx_I (_, sx_cpy _ _ _ _ _ _, _))); refine cx_I_cpy rfl rfl rfl (by decide) ?_) | ((with_reducible (change cx_F _ _ (_, sx_cpy _ _ _ _ _ _, _))); refine cx_F_cpy rfl ?_) | ((with_reducible (change cx_F _ _ _)); refine cx_F_step (by assumption) rfl ?_) | fail)
  all_goals (first | trivial | omega | (dsimp only at *; omega) | (simp only [sx_uf_if, sx_ua_if, sx_w_t, true_and, and_true, and_self, and_false, false_and, if_true, if_false, reduceIte] at *; omega) | (subst_vars; rfl) | (subst_vars; decide))

theorem c_gitem {sL : Nat} {sx : Nat → Int32} (hsL : sL ≤ 3072) (d : Nat) (hd : 77 ≤ d) : ∀ (s : sx_S) (K : Int → sx_S → Prop), cx_I s → (∀ (z : Int) (t : sx_S), cx_I t → cx_F [(7, 7)] s t → (0 ≤ z ∧ z ≤ 1) → K z t) → sx_C sL sx d 38 [.inr (.inl 7)] s K := by
  intro  s K hI  hK
  obtain ⟨d, rfl⟩ : ∃ e, d = e + 2 := ⟨d - 2, by omega⟩
  exact sx_meth (wr := true) (n := 400) hsL (e := eX2_item) rfl (w_gitem (Q := fun _ _ _ => False) (c_takes hsL (d + 1) (by omega)) (c_gtype hsL (d + 1) (by omega)) (c_gterm hsL (d + 1) (by omega)) hI  hK)

theorem w_gaccepts {CALL : sx_Ca} {sL : Nat} {sx : Nat → Int32} {Q : Nat → sx_L → sx_S → Prop} {R : Int → sx_S → Prop} (h_kind : ∀ (t0 : Int) (s : sx_S) (K : Int → sx_S → Prop), cx_I s → (-2147483648 ≤ t0 ∧ t0 ≤ 2147483647) → (∀ z : Int, (-2147483648 ≤ z ∧ z ≤ 2147483647) → K z s) → CALL 101 [.inr (.inl 2), .inl t0] s K) (h_gitem : ∀ (s : sx_S) (K : Int → sx_S → Prop), cx_I s → (∀ (z : Int) (t : sx_S), cx_I t → cx_F [(7, 7)] s t → (0 ≤ z ∧ z ≤ 1) → K z t) → CALL 38 [.inr (.inl 7)] s K) {s : sx_S} (hI : cx_I s) (hK : ∀ (z : Int) (t : sx_S), cx_I t → cx_F [(7, 7)] s t → (0 ≤ z ∧ z ≤ 1) → R z t) (hQ9 : ∀ (x1 x2 : Int) (t : sx_S), cx_I t → cx_F [(7, 7)] s t → (0 ≤ x1 ∧ x1 ≤ 1) → (-2147483648 ≤ x2 ∧ x2 ≤ 2147483647) → Q 9 [(0, .inr (.inl 7)), (1, .inl x1), (2, .inl x2)] t) : sx_wp true sL sx eX2_accepts CALL [(9, [0, 1, 2])] Q R 400 0 (sx_argsF 0 [.inr (.inl 7)]) [] s := by
  repeat' (first | (with_reducible intro _) | (refine And.intro ?_ ?_) | (refine hK _ _ ?_ ?_ ?_) | (refine h_kind _ _ _ ?_ ?_ ?_) | (refine h_gitem _ _ ?_  ?_) | (refine hQ9 _ _ _ ?_ ?_ ?_ ?_))
  all_goals (try dsimp only)
  repeat' (first | (with_reducible assumption) | ((with_reducible (change cx_I (sx_uf _ _ _ _, _))); refine cx_I_uf rfl rfl ?_ ?_ ?_) | ((with_reducible (change cx_I (_, sx_ua _ _ _ _, _))); refine cx_I_ua rfl rfl ?_ ?_ ?_) | ((with_reducible (change cx_I (_, sx_ua _ 16 _ _, _))); refine cx_I_ari ?_ ?_ ?_) | ((with_reducible (change cx_I (sx_uf _ 11 6 _, _))); refine cx_I_ufA rfl ?_ ?_ ?_ ?_) | (with_reducible exact cx_F_refl _ _) | ((with_reducible (change cx_F _ _ (sx_uf _ _ _ _, _))); refine cx_F_uf rfl ?_) | ((with_reducible (change cx_F _ _ (_, sx_ua _ _ _ _, _))); refine cx_F_ua rfl ?_) | ((with_reducible (change cx_I (_, sx_cpy _ _ _ _ _ _, _))); refine cx_I_cpy rfl rfl rfl (by decide) ?_) | ((with_reducible (change cx_F _ _ (_, sx_cpy _ _ _ _ _ _, _))); refine cx_F_cpy rfl ?_) | ((with_reducible (change cx_F _ _ _)); refine cx_F_step (by assumption) rfl ?_) | fail)
  all_goals (first | trivial | omega | (dsimp only at *; omega) | (simp only [sx_uf_if, sx_ua_if, sx_w_t, true_and, and_true, and_self, and_false, false_and, if_true, if_false, reduceIte] at *; omega) | (subst_vars; rfl) | (subst_vars; decide))

theorem w_gaccepts_9 {CALL : sx_Ca} {sL : Nat} {sx : Nat → Int32} {Q : Nat → sx_L → sx_S → Prop} {R : Int → sx_S → Prop} (h_kind : ∀ (t0 : Int) (s : sx_S) (K : Int → sx_S → Prop), cx_I s → (-2147483648 ≤ t0 ∧ t0 ≤ 2147483647) → (∀ z : Int, (-2147483648 ≤ z ∧ z ≤ 2147483647) → K z s) → CALL 101 [.inr (.inl 2), .inl t0] s K) (h_gitem : ∀ (s : sx_S) (K : Int → sx_S → Prop), cx_I s → (∀ (z : Int) (t : sx_S), cx_I t → cx_F [(7, 7)] s t → (0 ≤ z ∧ z ≤ 1) → K z t) → CALL 38 [.inr (.inl 7)] s K) {s : sx_S} (hI : cx_I s) (hK : ∀ (z : Int) (t : sx_S), cx_I t → cx_F [(7, 7)] s t → (0 ≤ z ∧ z ≤ 1) → R z t) {t : sx_S} (hJ : cx_I t) (hF : cx_F [(7, 7)] s t) {x1 x2 : Int} {mm : Nat} (hm : mm = 17179869184 + (2147483647 - x2).toNat) (i0 : (0 ≤ x1 ∧ x1 ≤ 1)) (i1 : (-2147483648 ≤ x2 ∧ x2 ≤ 2147483647)) (hQ9 : ∀ (x1 x2 : Int) (t : sx_S), cx_I t → cx_F [(7, 7)] s t → (0 ≤ x1 ∧ x1 ≤ 1) → (-2147483648 ≤ x2 ∧ x2 ≤ 2147483647) → (17179869184 + (2147483647 - x2).toNat < mm) → Q 9 [(0, .inr (.inl 7)), (1, .inl x1), (2, .inl x2)] t) : sx_wp true sL sx eX2_accepts CALL [(9, [0, 1, 2])] Q R 400 9 [(0, .inr (.inl 7)), (1, .inl x1), (2, .inl x2)] [] t := by
  repeat' (first | (with_reducible intro _) | (refine And.intro ?_ ?_) | (refine hK _ _ ?_ ?_ ?_) | (refine h_kind _ _ _ ?_ ?_ ?_) | (refine h_gitem _ _ ?_  ?_) | (refine hQ9 _ _ _ ?_ ?_ ?_ ?_ ?_))
  all_goals (try dsimp only)
  repeat' (first | (with_reducible assumption) | ((with_reducible (change cx_I (sx_uf _ _ _ _, _))); refine cx_I_uf rfl rfl ?_ ?_ ?_) | ((with_reducible (change cx_I (_, sx_ua _ _ _ _, _))); refine cx_I_ua rfl rfl ?_ ?_ ?_) | ((with_reducible (change cx_I (_, sx_ua _ 16 _ _, _))); refine cx_I_ari ?_ ?_ ?_) | ((with_reducible (change cx_I (sx_uf _ 11 6 _, _))); refine cx_I_ufA rfl ?_ ?_ ?_ ?_) | (with_reducible exact cx_F_refl _ _) | ((with_reducible (change cx_F _ _ (sx_uf _ _ _ _, _))); refine cx_F_uf rfl ?_) | ((with_reducible (change cx_F _ _ (_, sx_ua _ _ _ _, _))); refine cx_F_ua rfl ?_) | ((with_reducible (change cx_I (_, sx_cpy _ _ _ _ _ _, _))); refine cx_I_cpy rfl rfl rfl (by decide) ?_) | ((with_reducible (change cx_F _ _ (_, sx_cpy _ _ _ _ _ _, _))); refine cx_F_cpy rfl ?_) | ((with_reducible (change cx_F _ _ _)); refine cx_F_step (by assumption) rfl ?_) | fail)
  all_goals (first | trivial | omega | (dsimp only at *; omega) | (simp only [sx_uf_if, sx_ua_if, sx_w_t, true_and, and_true, and_self, and_false, false_and, if_true, if_false, reduceIte] at *; omega) | (subst_vars; rfl) | (subst_vars; decide))

theorem c_gaccepts {sL : Nat} {sx : Nat → Int32} (hsL : sL ≤ 3072) (d : Nat) (hd : 78 ≤ d) : ∀ (s : sx_S) (K : Int → sx_S → Prop), cx_I s → (∀ (z : Int) (t : sx_S), cx_I t → cx_F [(7, 7)] s t → (0 ≤ z ∧ z ≤ 1) → K z t) → sx_C sL sx d 35 [.inr (.inl 7)] s K := by
  intro  s K hI  hK
  obtain ⟨d, rfl⟩ : ∃ e, d = e + 2 := ⟨d - 2, by omega⟩
  refine sx_methL (wr := true) (n := 400) (n' := 400) (stop := [(9, [0, 1, 2])]) (fun n pc ls u => (pc = 9 ∧ ∃ (x1 x2 : Int), ls = [(0, .inr (.inl 7)), (1, .inl x1), (2, .inl x2)] ∧ cx_I u ∧ cx_F [(7, 7)] s u ∧ (0 ≤ x1 ∧ x1 ≤ 1) ∧ (-2147483648 ≤ x2 ∧ x2 ≤ 2147483647) ∧ n = 17179869184 + (2147483647 - x2).toNat)) hsL (e := eX2_accepts) rfl ?_ ?_
  · exact w_gaccepts (c_kind hsL (d + 1) (by omega)) (c_gitem hsL (d + 1) (by omega)) hI  hK (fun x1 x2 u j1 j2 i0 i1 => ⟨_, ⟨rfl, x1, x2, rfl, j1, j2, i0, i1, rfl⟩⟩)
  · rintro n pc ls u (⟨rfl, x1, x2, rfl, j1, j2, i0, i1, rfl⟩)
    · exact w_gaccepts_9 (c_kind hsL (d + 1) (by omega)) (c_gitem hsL (d + 1) (by omega)) hI  hK j1 j2 rfl i0 i1 (fun x1 x2 u j1 j2 i0 i1 hm => ⟨_, hm, ⟨rfl, x1, x2, rfl, j1, j2, i0, i1, rfl⟩⟩)
end
