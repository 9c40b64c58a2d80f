/-! ===== how many turns: what the tables say ===== -/
theorem vz_all {n : Nat} {p : Nat → Bool} (h : (List.range n).all p = true) {b : Nat} (hb : b < n) : p b = true := List.all_eq_true.mp h b (List.mem_range.mpr hb)
section
variable {f : Nat → Nat} {m G : Nat}
theorem vz_up (hc : ∀ b, b < 122 → 2 * f (b + 1) ≤ f b + f (b + 2)) (h : f m + G ≤ f (m + 1)) : ∀ k, m + k ≤ 123 → f m + k * G ≤ f (m + k) ∧ (m + k + 1 ≤ 123 → f (m + k) + G ≤ f (m + k + 1))
  | 0, _ => by
    rw [Nat.zero_mul]
    exact ⟨Nat.le_refl _, fun _ => h⟩
  | k + 1, hk => by
    obtain ⟨h1, h2⟩ := vz_up hc h k (by omega)
    have h3 := h2 (by omega)
    rw [Nat.succ_mul]
    refine ⟨by show _ ≤ f (m + k + 1); omega, fun h4 => ?_⟩
    have := hc (m + k) (by omega)
    show f (m + k + 1) + G ≤ f (m + k + 2)
    omega
theorem vz_dn (hc : ∀ b, b < 122 → 2 * f (b + 1) ≤ f b + f (b + 2)) (hm : m ≤ 123) (h : f m ≤ f (m - 1) + G) : ∀ k, k < m → f m ≤ f (m - k) + k * G ∧ f (m - k) ≤ f (m - k - 1) + G
  | 0, _ => by
    rw [Nat.zero_mul]
    exact ⟨Nat.le_refl _, h⟩
  | k + 1, hk => by
    obtain ⟨h1, h2⟩ := vz_dn hc hm h k (by omega)
    rw [Nat.succ_mul]
    have e1 : m - (k + 1) = m - k - 1 := by omega
    have e2 : m - k - 1 - 1 = m - k - 2 := by omega
    have h5 := hc (m - k - 2) (by omega)
    rw [show m - k - 2 + 1 = m - k - 1 by omega, show m - k - 2 + 2 = m - k by omega] at h5
    rw [e1, e2]
    exact ⟨by omega, by omega⟩
theorem vz_line (hc : ∀ b, b < 122 → 2 * f (b + 1) ≤ f b + f (b + 2)) {A i : Nat} (h1 : i ≤ m) (h2 : m ≤ 123) (h3 : A + (m - i) * G ≤ f m) (h4 : m = 123 ∨ f m + G ≤ f (m + 1)) (h5 : m = i ∨ f m ≤ f (m - 1) + G) {s : Nat} (hs : i + s ≤ 123) : A + s * G ≤ f (i + s) := by
  by_cases q : m ≤ i + s
  · have e : s = (m - i) + (i + s - m) := by omega
    have e2 : s * G = (m - i) * G + (i + s - m) * G := by
      rw [← Nat.add_mul]
      congr 1
    rcases h4 with h4 | h4
    · have e3 : i + s - m = 0 := by omega
      rw [e3, Nat.zero_mul] at e2
      have e4 : i + s = m := by omega
      rw [e4]
      omega
    · have := (vz_up hc h4 (i + s - m) (by omega)).1
      rw [show m + (i + s - m) = i + s by omega] at this
      omega
  · rcases h5 with h5 | h5
    · omega
    · have e2 : (m - i) * G = s * G + (m - (i + s)) * G := by
        rw [← Nat.add_mul]
        congr 1
        omega
      by_cases q2 : i + s = 0
      · have e3 : i = 0 := by omega
        have e4 : s = 0 := by omega
        subst e3 e4
        obtain ⟨k1, k2⟩ := vz_dn hc h2 h5 (m - 1) (by omega)
        rw [show m - (m - 1) = 1 by omega] at k1 k2
        have e5 : m * G = (m - 1) * G + G := by
          rw [← Nat.succ_mul]
          congr 1
          omega
        rw [Nat.sub_zero, e5] at h3
        rw [Nat.zero_mul]
        have k2' : f 1 ≤ f 0 + G := k2
        show A + 0 ≤ f 0
        omega
      · obtain ⟨k1, _⟩ := vz_dn hc h2 h5 (m - (i + s)) (by omega)
        rw [show m - (m - (i + s)) = i + s by omega] at k1
        omega
end
def vz_sh (d : Nat) (f : Nat → Nat) (T : Nat) : Nat := if T - d = 0 then 0 else f (T - d)
/-- c bare calls, e others, h: what its body has; unknown after unknown -/
def vz_P : List (Nat × Nat × Nat) → Nat → Nat
  | [], _ => 0
  | x :: r, T => vz_P r T + x.1 * vz_sh 2 (fun T => x.2.2 + vz_P r T) T + x.2.1 * vz_sh 1 (fun T => x.2.2 + vz_P r T) T
/-- each bare alone, or not; scaled -/
def vz_S : List (Bool × Nat × Nat) → Nat → Nat
  | [], _ => 0
  | x :: r, T => 3 * vz_S r T + x.2.1 * (if x.1 then 3 * vz_sh 2 (fun T => 3 ^ r.length * x.2.2 + vz_S r T) T else vz_sh 1 (fun T => 3 ^ r.length * x.2.2 + vz_S r T) T)
def vz_ok0 : Nat → List (Nat × Nat × Nat) → Prop
  | _, [] => True
  | B, x :: r => (if x.2.1 = 0 then 4 else 5) + (x.1 + 3 * x.2.1) ≤ B ∧ x.2.2 ≤ 2 * (B - ((if x.2.1 = 0 then 4 else 5) + (x.1 + 3 * x.2.1))) ∧ vz_ok0 (B - ((if x.2.1 = 0 then 4 else 5) + (x.1 + 3 * x.2.1))) r
def vz_ok : Nat → List (Bool × Nat × Nat) → Prop
  | _, [] => True
  | B, x :: r => vz_o x.1 + x.2.1 ≤ B ∧ x.2.2 ≤ 2 * (B - (vz_o x.1 + x.2.1)) ∧ vz_ok (B - (vz_o x.1 + x.2.1)) r
theorem vz_ok_mono : ∀ {r : List (Bool × Nat × Nat)} {B B' : Nat}, B ≤ B' → vz_ok B r → vz_ok B' r
  | [], _, _, _, _ => trivial
  | x :: r, B, B', h, ⟨h1, h2, h3⟩ => ⟨by omega, by omega, vz_ok_mono (by omega) h3⟩
theorem vz_sh_le {d : Nat} {f g : Nat → Nat} (h : ∀ T, f T ≤ g T) (T : Nat) : vz_sh d f T ≤ vz_sh d g T := by
  unfold vz_sh
  by_cases q : T - d = 0
  · rw [if_pos q, if_pos q]
    exact Nat.le_refl _
  · rw [if_neg q, if_neg q]
    exact h _
theorem vz_st {bare : Bool} {j : Nat} {old new ct : List Nat} (hk : vz_ck bare j old new ct = true) (hc : vz_cv new = true) {r : List (Bool × Nat × Nat)} (hj : r.length = j) (hr : ∀ T B, T ≤ 6 → B ≤ 123 → vz_ok B r → vz_S r T ≤ vz_at old T B) {T B s h : Nat} (hT : T ≤ 6) (hB : B ≤ 123) (ho : vz_ok B ((bare, s, h) :: r)) : vz_S ((bare, s, h) :: r) T ≤ vz_at new T B := by
  obtain ⟨o1, o2, o3⟩ := ho
  have o1' : vz_o bare + s ≤ B := o1
  have o2' : h ≤ 2 * (B - (vz_o bare + s)) := o2
  have o3' : vz_ok (B - (vz_o bare + s)) r := o3
  have hcv : ∀ b, b < 122 → 2 * vz_at new T (b + 1) ≤ vz_at new T b + vz_at new T (b + 2) := fun b hb => Nat.le_of_ble_eq_true (vz_all (vz_all hc (b := T) (by omega)) hb)
  obtain ⟨b1, hb1⟩ : ∃ b1, b1 = B - (vz_o bare + s) := ⟨_, rfl⟩
  rw [← hb1] at o2' o3'
  have hl := vz_all (vz_all hk (b := T) (by omega)) (b := b1) (by omega)
  unfold vz_c1 at hl
  rw [Bool.and_eq_true, Bool.and_eq_true, Bool.and_eq_true, Bool.and_eq_true, Bool.or_eq_true, Bool.or_eq_true] at hl
  obtain ⟨⟨⟨⟨l1, l2⟩, l3⟩, l4⟩, l5⟩ := hl
  have key := vz_line hcv (Nat.le_of_ble_eq_true l1) (Nat.le_of_ble_eq_true l2) (Nat.le_of_ble_eq_true l3) (l4.imp Nat.eq_of_beq_eq_true Nat.le_of_ble_eq_true) (l5.imp Nat.eq_of_beq_eq_true Nat.le_of_ble_eq_true) (s := s) (by omega)
  rw [show b1 + vz_o bare + s = B by omega] at key
  refine Nat.le_trans ?_ key
  have v : ∀ T', T' ≤ 6 → (if T' = 0 then 0 else 3 ^ r.length * h + vz_S r T') ≤ vz_v j old T' b1 := fun T' hT' => by
    unfold vz_v
    by_cases q : T' = 0
    · rw [if_pos q, if_pos q]
      exact Nat.le_refl _
    · rw [if_neg q, if_neg q, hj]
      exact Nat.add_le_add (Nat.mul_le_mul_left _ o2') (hr T' b1 hT' (by omega) o3')
  have e1 := hr T b1 hT (by omega) o3'
  have e2 : (if bare then 3 * vz_sh 2 (fun T => 3 ^ r.length * h + vz_S r T) T else vz_sh 1 (fun T => 3 ^ r.length * h + vz_S r T) T) ≤ vz_G bare j old T b1 := by
    unfold vz_G vz_sh
    cases bare with
    | true => exact Nat.mul_le_mul_left _ (v (T - 2) (by omega))
    | false => exact v (T - 1) (by omega)
  show 3 * vz_S r T + s * (if bare then 3 * vz_sh 2 (fun T => 3 ^ r.length * h + vz_S r T) T else vz_sh 1 (fun T => 3 ^ r.length * h + vz_S r T) T) ≤ _
  exact Nat.add_le_add (Nat.mul_le_mul_left _ e1) (Nat.mul_le_mul_left _ e2)
def vz_ct : List (Bool × Nat × Nat) → Nat
  | [] => 0
  | x :: r => vz_ct r + (if x.1 then 1 else 0)
theorem vz_ct_le : ∀ r : List (Bool × Nat × Nat), vz_ct r ≤ r.length
  | [] => Nat.le_refl _
  | x :: r => by
    have := vz_ct_le r
    show vz_ct r + (if x.1 then 1 else 0) ≤ r.length + 1
    by_cases q : x.1 = true
    · rw [if_pos q]
      omega
    · rw [if_neg q]
      omega
def vz_B (j p : Nat) : List Nat := match j, p with
  | 0, 0 => vz_t00
  | 1, 0 => vz_t10
  | 1, 1 => vz_t11
  | 2, 0 => vz_t20
  | 2, 1 => vz_t21
  | 2, 2 => vz_t22
  | 3, 0 => vz_t30
  | 3, 1 => vz_t31
  | 3, 2 => vz_t32
  | 3, 3 => vz_t33
  | 4, 0 => vz_t40
  | 4, 1 => vz_t41
  | 4, 2 => vz_t42
  | 4, 3 => vz_t43
  | 4, 4 => vz_t44
  | 5, 0 => vz_t50
  | 5, 1 => vz_t51
  | 5, 2 => vz_t52
  | 5, 3 => vz_t53
  | 5, 4 => vz_t54
  | 5, 5 => vz_t55
  | _, _ => []
theorem vz_nx : ∀ j p, j ≤ 4 → p ≤ j → (∃ ct, vz_ck true j (vz_B j p) (vz_B (j + 1) (p + 1)) ct = true ∧ vz_cv (vz_B (j + 1) (p + 1)) = true) ∧ ∃ ct, vz_ck false j (vz_B j p) (vz_B (j + 1) p) ct = true ∧ vz_cv (vz_B (j + 1) p) = true
  | 0, 0, _, _ => ⟨⟨_, vz_ck00b, vz_cv11⟩, ⟨_, vz_ck00e, vz_cv10⟩⟩
  | 0, p + 1, _, h => absurd h (by omega)
  | 1, 0, _, _ => ⟨⟨_, vz_ck10b, vz_cv21⟩, ⟨_, vz_ck10e, vz_cv20⟩⟩
  | 1, 1, _, _ => ⟨⟨_, vz_ck11b, vz_cv22⟩, ⟨_, vz_ck11e, vz_cv21⟩⟩
  | 1, p + 2, _, h => absurd h (by omega)
  | 2, 0, _, _ => ⟨⟨_, vz_ck20b, vz_cv31⟩, ⟨_, vz_ck20e, vz_cv30⟩⟩
  | 2, 1, _, _ => ⟨⟨_, vz_ck21b, vz_cv32⟩, ⟨_, vz_ck21e, vz_cv31⟩⟩
  | 2, 2, _, _ => ⟨⟨_, vz_ck22b, vz_cv33⟩, ⟨_, vz_ck22e, vz_cv32⟩⟩
  | 2, p + 3, _, h => absurd h (by omega)
  | 3, 0, _, _ => ⟨⟨_, vz_ck30b, vz_cv41⟩, ⟨_, vz_ck30e, vz_cv40⟩⟩
  | 3, 1, _, _ => ⟨⟨_, vz_ck31b, vz_cv42⟩, ⟨_, vz_ck31e, vz_cv41⟩⟩
  | 3, 2, _, _ => ⟨⟨_, vz_ck32b, vz_cv43⟩, ⟨_, vz_ck32e, vz_cv42⟩⟩
  | 3, 3, _, _ => ⟨⟨_, vz_ck33b, vz_cv44⟩, ⟨_, vz_ck33e, vz_cv43⟩⟩
  | 3, p + 4, _, h => absurd h (by omega)
  | 4, 0, _, _ => ⟨⟨_, vz_ck40b, vz_cv51⟩, ⟨_, vz_ck40e, vz_cv50⟩⟩
  | 4, 1, _, _ => ⟨⟨_, vz_ck41b, vz_cv52⟩, ⟨_, vz_ck41e, vz_cv51⟩⟩
  | 4, 2, _, _ => ⟨⟨_, vz_ck42b, vz_cv53⟩, ⟨_, vz_ck42e, vz_cv52⟩⟩
  | 4, 3, _, _ => ⟨⟨_, vz_ck43b, vz_cv54⟩, ⟨_, vz_ck43e, vz_cv53⟩⟩
  | 4, 4, _, _ => ⟨⟨_, vz_ck44b, vz_cv55⟩, ⟨_, vz_ck44e, vz_cv54⟩⟩
  | 4, p + 5, _, h => absurd h (by omega)
  | j + 5, p, h, _ => absurd h (by omega)
theorem vz_tab : ∀ (r : List (Bool × Nat × Nat)), r.length ≤ 5 → ∀ T B, T ≤ 6 → B ≤ 123 → vz_ok B r → vz_S r T ≤ vz_at (vz_B r.length (vz_ct r)) T B
  | [], _, T, B, _, _, _ => Nat.zero_le _
  | (b, s, h) :: r, hl, T, B, hT, hB, ho => by
    rw [List.length_cons] at hl
    have ih := vz_tab r (by omega)
    obtain ⟨⟨ct, a1, a2⟩, ⟨ct', b1, b2⟩⟩ := vz_nx r.length (vz_ct r) (by omega) (vz_ct_le r)
    cases b with
    | true => exact vz_st a1 a2 rfl ih hT hB ho
    | false => exact vz_st b1 b2 rfl ih hT hB ho
theorem vz_mx5 : ∀ j p, j ≤ 5 → p ≤ j → vz_at (vz_B j p) 6 123 ≤ 3 ^ j * 958478
  | 0, 0, _, _ => by decide +kernel
  | 0, p + 1, _, h => absurd h (by omega)
  | 1, 0, _, _ => by decide +kernel
  | 1, 1, _, _ => by decide +kernel
  | 1, p + 2, _, h => absurd h (by omega)
  | 2, 0, _, _ => by decide +kernel
  | 2, 1, _, _ => by decide +kernel
  | 2, 2, _, _ => by decide +kernel
  | 2, p + 3, _, h => absurd h (by omega)
  | 3, 0, _, _ => by decide +kernel
  | 3, 1, _, _ => by decide +kernel
  | 3, 2, _, _ => by decide +kernel
  | 3, 3, _, _ => by decide +kernel
  | 3, p + 4, _, h => absurd h (by omega)
  | 4, 0, _, _ => by decide +kernel
  | 4, 1, _, _ => by decide +kernel
  | 4, 2, _, _ => by decide +kernel
  | 4, 3, _, _ => by decide +kernel
  | 4, 4, _, _ => by decide +kernel
  | 4, p + 5, _, h => absurd h (by omega)
  | 5, 0, _, _ => by decide +kernel
  | 5, 1, _, _ => by decide +kernel
  | 5, 2, _, _ => by decide +kernel
  | 5, 3, _, _ => by decide +kernel
  | 5, 4, _, _ => by decide +kernel
  | 5, 5, _, _ => by decide +kernel
  | 5, p + 6, _, h => absurd h (by omega)
  | j + 6, p, h, _ => absurd h (by omega)
/-- sums of rows, with weights -/
def vz_lin (P : (Nat → Nat) → Nat) : Prop := (∀ f g, P (fun T => f T + g T) = P f + P g) ∧ (∀ k f, P (fun T => k * f T) = k * P f) ∧ ∀ f g, (∀ T, f T ≤ g T) → P f ≤ P g
theorem vz_sh_add {d : Nat} {f g : Nat → Nat} : vz_sh d (fun T => f T + g T) = fun T => vz_sh d f T + vz_sh d g T := by
  funext T
  unfold vz_sh
  by_cases q : T - d = 0
  · rw [if_pos q, if_pos q, if_pos q]
  · rw [if_neg q, if_neg q, if_neg q]
theorem vz_sh_mul {d k : Nat} {f : Nat → Nat} : vz_sh d (fun T => k * f T) = fun T => k * vz_sh d f T := by
  funext T
  unfold vz_sh
  by_cases q : T - d = 0
  · rw [if_pos q, if_pos q, Nat.mul_zero]
  · rw [if_neg q, if_neg q]
theorem vz_mix : ∀ (l : List (Nat × Nat × Nat)) (P : (Nat → Nat) → Nat), vz_lin P → ∃ q : List (Bool × Nat × Nat), q.length = l.length ∧ (∀ B, vz_ok0 B l → vz_ok B q) ∧ 3 ^ l.length * P (vz_P l) ≤ P (vz_S q)
  | [], P, hP => by
    refine ⟨[], rfl, fun _ _ => trivial, ?_⟩
    show 1 * P (vz_P []) ≤ P (vz_S [])
    rw [Nat.one_mul]
    exact hP.2.2 _ _ (fun _ => Nat.le_refl _)
  | (c, e, h) :: r, P, hP => by
    obtain ⟨p1, p2, p3⟩ := hP
    have hP' : vz_lin (fun f => P f + c * P (vz_sh 2 f) + e * P (vz_sh 1 f)) := by
      refine ⟨fun f g => ?_, fun k f => ?_, fun f g hfg => ?_⟩
      · dsimp only
        rw [vz_sh_add, vz_sh_add, p1, p1, p1, Nat.mul_add, Nat.mul_add]
        omega
      · dsimp only
        rw [vz_sh_mul, vz_sh_mul, p2, p2, p2, Nat.mul_add, Nat.mul_add, Nat.mul_left_comm c k, Nat.mul_left_comm e k]
      · dsimp only
        have a1 := p3 _ _ hfg
        have a2 := Nat.mul_le_mul_left c (p3 _ _ (vz_sh_le (d := 2) hfg))
        have a3 := Nat.mul_le_mul_left e (p3 _ _ (vz_sh_le (d := 1) hfg))
        omega
    obtain ⟨q, q1, q2, q3⟩ := vz_mix r _ hP'
    try dsimp only at q3
    obtain ⟨X, hX⟩ : ∃ X, X = P (vz_sh 2 (fun T => 3 ^ q.length * h + vz_S q T)) := ⟨_, rfl⟩
    obtain ⟨Y, hY⟩ : ∃ Y, Y = P (vz_sh 1 (fun T => 3 ^ q.length * h + vz_S q T)) := ⟨_, rfl⟩
    -- what the list says
    have eL : P (vz_P ((c, e, h) :: r)) = P (vz_P r) + c * (P (vz_sh 2 (fun _ => h)) + P (vz_sh 2 (vz_P r))) + e * (P (vz_sh 1 (fun _ => h)) + P (vz_sh 1 (vz_P r))) := by
      have e0 : vz_P ((c, e, h) :: r) = fun T => (vz_P r T + c * vz_sh 2 (fun T => h + vz_P r T) T) + e * vz_sh 1 (fun T => h + vz_P r T) T := rfl
      rw [e0, p1, p1, p2, p2, vz_sh_add, vz_sh_add, p1, p1]
    have eX : X = 3 ^ r.length * P (vz_sh 2 (fun _ => h)) + P (vz_sh 2 (vz_S q)) := by
      have e1 : vz_sh 2 (fun T => 3 ^ q.length * h + vz_S q T) = fun T => vz_sh 2 (fun _ => 3 ^ q.length * h) T + vz_sh 2 (vz_S q) T := vz_sh_add
      have e2 : vz_sh 2 (fun _ => 3 ^ q.length * h) = fun T => 3 ^ q.length * vz_sh 2 (fun _ => h) T := vz_sh_mul
      rw [hX, e1, e2, p1, p2, q1]
    have eY : Y = 3 ^ r.length * P (vz_sh 1 (fun _ => h)) + P (vz_sh 1 (vz_S q)) := by
      have e1 : vz_sh 1 (fun T => 3 ^ q.length * h + vz_S q T) = fun T => vz_sh 1 (fun _ => 3 ^ q.length * h) T + vz_sh 1 (vz_S q) T := vz_sh_add
      have e2 : vz_sh 1 (fun _ => 3 ^ q.length * h) = fun T => 3 ^ q.length * vz_sh 1 (fun _ => h) T := vz_sh_mul
      rw [hY, e1, e2, p1, p2, q1]
    have le1 : 3 ^ r.length * P (vz_P ((c, e, h) :: r)) ≤ P (vz_S q) + c * X + e * Y := by
      rw [eL, eX, eY, Nat.mul_add, Nat.mul_add, Nat.mul_left_comm _ c, Nat.mul_left_comm _ e, Nat.mul_add (3 ^ r.length) (P (vz_sh 2 fun _ => h)), Nat.mul_add (3 ^ r.length) (P (vz_sh 1 fun _ => h)), Nat.mul_add c, Nat.mul_add e, Nat.mul_add c, Nat.mul_add e]
      rw [Nat.mul_add, Nat.mul_add, Nat.mul_left_comm _ c, Nat.mul_left_comm _ e] at q3
      omega
    have le2 : 3 ^ ((c, e, h) :: r).length * P (vz_P ((c, e, h) :: r)) ≤ 3 * P (vz_S q) + 3 * (c * X) + 3 * (e * Y) := by
      rw [List.length_cons, Nat.pow_succ, Nat.mul_comm (3 ^ r.length) 3, Nat.mul_assoc]
      omega
    have pick : ∀ b : Bool, (b = false → e ≠ 0) → 3 * (c * X) + 3 * (e * Y) ≤ (c + 3 * e) * (if b then 3 * X else Y) → ∃ q : List (Bool × Nat × Nat), q.length = ((c, e, h) :: r).length ∧ (∀ B, vz_ok0 B ((c, e, h) :: r) → vz_ok B q) ∧ 3 ^ ((c, e, h) :: r).length * P (vz_P ((c, e, h) :: r)) ≤ P (vz_S q) := fun b hb hle => by
      refine ⟨(b, c + 3 * e, h) :: q, by rw [List.length_cons, List.length_cons, q1], fun B ho => ?_, ?_⟩
      · obtain ⟨o1, o2, o3⟩ := ho
        dsimp only at o1 o2 o3
        have ob : vz_o b ≤ (if e = 0 then 4 else 5) := by
          unfold vz_o
          cases b with
          | true =>
            by_cases z : e = 0
            · rw [if_pos z]
              decide
            · rw [if_neg z]
              decide
          | false =>
            rw [if_neg (hb rfl)]
            decide
        refine ⟨?_, ?_, ?_⟩
        · show vz_o b + (c + 3 * e) ≤ B
          omega
        · show h ≤ 2 * (B - (vz_o b + (c + 3 * e)))
          omega
        · exact vz_ok_mono (by show _ ≤ B - (vz_o b + (c + 3 * e)); omega) (q2 _ o3)
      · refine Nat.le_trans le2 ?_
        have eS : P (vz_S ((b, c + 3 * e, h) :: q)) = 3 * P (vz_S q) + (c + 3 * e) * (if b then 3 * X else Y) := by
          cases b with
          | true =>
            have e0 : vz_S ((true, c + 3 * e, h) :: q) = fun T => 3 * vz_S q T + (c + 3 * e) * (3 * vz_sh 2 (fun T => 3 ^ q.length * h + vz_S q T) T) := rfl
            rw [e0, p1, p2, p2, p2, ← hX]
            rfl
          | false =>
            have e0 : vz_S ((false, c + 3 * e, h) :: q) = fun T => 3 * vz_S q T + (c + 3 * e) * vz_sh 1 (fun T => 3 ^ q.length * h + vz_S q T) T := rfl
            rw [e0, p1, p2, p2, ← hY]
            rfl
        rw [eS]
        omega
    by_cases z : e = 0
    · refine pick true (fun q => by cases q) ?_
      rw [z, if_pos rfl, Nat.zero_mul, Nat.mul_zero, Nat.add_zero, Nat.add_zero, Nat.mul_left_comm]
      exact Nat.le_refl _
    · by_cases w : Y ≤ 3 * X
      · refine pick true (fun q => by cases q) ?_
        rw [if_pos rfl, Nat.add_mul]
        have a1 : c * (3 * X) = 3 * (c * X) := Nat.mul_left_comm _ _ _
        have a2 : 3 * e * (3 * X) = 3 * (e * (3 * X)) := Nat.mul_assoc _ _ _
        have a3 := Nat.mul_le_mul_left e w
        omega
      · refine pick false (fun _ => z) ?_
        rw [if_neg (by decide), Nat.add_mul]
        have a1 := Nat.mul_le_mul_left c (show 3 * X ≤ Y by omega)
        have a2 : c * (3 * X) = 3 * (c * X) := Nat.mul_left_comm _ _ _
        have a3 : 3 * e * Y = 3 * (e * Y) := Nat.mul_assoc _ _ _
        omega
/-- the most -/
theorem vz_most {l : List (Nat × Nat × Nat)} (hl : l.length ≤ 5) (ho : vz_ok0 123 l) : vz_P l 6 ≤ 958478 := by
  obtain ⟨q, q1, q2, q3⟩ := vz_mix l (fun f => f 6) ⟨fun _ _ => rfl, fun _ _ => rfl, fun _ _ h => h 6⟩
  try dsimp only at q3
  have h1 := vz_tab q (by omega) 6 123 (by omega) (by omega) (q2 123 ho)
  have h2 := vz_mx5 q.length (vz_ct q) (by omega) (vz_ct_le q)
  rw [q1] at h1 h2
  have h3 : 3 ^ l.length * vz_P l 6 ≤ 3 ^ l.length * 958478 := Nat.le_trans q3 (Nat.le_trans h1 h2)
  exact Nat.le_of_mul_le_mul_left h3 (Nat.pow_pos (by decide))
