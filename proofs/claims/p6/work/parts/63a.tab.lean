/-! ===== how many turns: a table, and what its rows say ===== -/
def vz_mx : List Nat → List Nat → Nat → Nat → Nat
  | r :: rs, g :: gs, s, a => match s with
    | 0 => Nat.max a (r + 0 * g / 6)
    | s' + 1 => vz_mx rs gs s' (Nat.max a (r + (s' + 1) * g / 6))
  | _, _, _, a => a
def vz_row (r g : List Nat) : Nat → Nat → List Nat
  | 0, _ => []
  | n + 1, b => (if b < 8 then 0 else vz_mx r g (b - 8) 0) :: vz_row r g n (b + 1)
def vz_f : Nat → List Nat → List Nat
  | _, [] => []
  | b, x :: r => (b + x) :: vz_f (b + 1) r
def vz_g (f2 f1 : List Nat) : List Nat := List.zipWith (fun a b => Nat.max (3 * a) b) f2 f1
theorem vz_mx_acc : ∀ {rs gs : List Nat} {s a : Nat}, a ≤ vz_mx rs gs s a
  | [], _, _, _ => by
    unfold vz_mx
    exact Nat.le_refl _
  | _ :: _, [], _, _ => by
    unfold vz_mx
    exact Nat.le_refl _
  | r :: rs, g :: gs, 0, a => by
    unfold vz_mx
    exact Nat.le_max_left _ _
  | r :: rs, g :: gs, s + 1, a => by
    unfold vz_mx
    exact Nat.le_trans (Nat.le_max_left _ _) (vz_mx_acc (rs := rs) (gs := gs) (s := s))
theorem vz_mx_ge : ∀ {rs gs : List Nat} {s a i r g : Nat}, i ≤ s → rs[i]? = some r → gs[i]? = some g → r + (s - i) * g / 6 ≤ vz_mx rs gs s a
  | [], _, _, _, _, _, _, _, h, _ => by simp at h
  | _ :: _, [], _, _, _, _, _, _, _, h => by simp at h
  | x :: rs, y :: gs, 0, a, i, r, g, hi, h1, h2 => by
    obtain rfl : i = 0 := by omega
    have e1 : x = r := by simpa using h1
    have e2 : y = g := by simpa using h2
    subst e1 e2
    unfold vz_mx
    exact Nat.le_max_right _ _
  | x :: rs, y :: gs, s + 1, a, 0, r, g, hi, h1, h2 => by
    have e1 : x = r := by simpa using h1
    have e2 : y = g := by simpa using h2
    subst e1 e2
    unfold vz_mx
    exact Nat.le_trans (Nat.le_max_right _ _) (vz_mx_acc (rs := rs) (gs := gs) (s := s))
  | x :: rs, y :: gs, s + 1, a, i + 1, r, g, hi, h1, h2 => by
    rw [List.getElem?_cons_succ] at h1 h2
    unfold vz_mx
    rw [show s + 1 - (i + 1) = s - i by omega]
    exact vz_mx_ge (by omega) h1 h2
theorem vz_row_at {r g : List Nat} : ∀ {n b i : Nat}, i < n → (vz_row r g n b)[i]? = some (if b + i < 8 then 0 else vz_mx r g (b + i - 8) 0)
  | 0, _, _, h => absurd h (Nat.not_lt_zero _)
  | n + 1, b, 0, _ => rfl
  | n + 1, b, i + 1, h => by
    show (vz_row r g n (b + 1))[i]? = _
    rw [vz_row_at (by omega), show b + 1 + i = b + (i + 1) by omega]
theorem vz_f_at : ∀ {l : List Nat} {b i x : Nat}, l[i]? = some x → (vz_f b l)[i]? = some (b + i + x)
  | [], _, _, _, h => by simp at h
  | y :: l, b, 0, x, h => by
    have e : y = x := by simpa using h
    subst e
    rfl
  | y :: l, b, i + 1, x, h => by
    rw [List.getElem?_cons_succ] at h
    show (vz_f (b + 1) l)[i]? = _
    rw [vz_f_at h, show b + 1 + i = b + (i + 1) by omega]
theorem vz_g_at {f2 f1 : List Nat} {i x y : Nat} (h2 : f2[i]? = some x) (h1 : f1[i]? = some y) : (vz_g f2 f1)[i]? = some (Nat.max (3 * x) y) := by
  unfold vz_g
  rw [List.getElem?_zipWith, h2, h1]
/-- one unknown more: c bare calls, e calls with a written ARG -/
theorem vz_step {c e x y s : Nat} (hs : 2 * c + 6 * e ≤ s) : c * x + e * y ≤ s * Nat.max (3 * x) y / 6 := by
  rw [Nat.le_div_iff_mul_le (by decide)]
  have h1 : 2 * c * (3 * x) ≤ 2 * c * Nat.max (3 * x) y := Nat.mul_le_mul_left _ (Nat.le_max_left _ _)
  have h2 : 6 * e * y ≤ 6 * e * Nat.max (3 * x) y := Nat.mul_le_mul_left _ (Nat.le_max_right _ _)
  have h3 : (2 * c + 6 * e) * Nat.max (3 * x) y ≤ s * Nat.max (3 * x) y := Nat.mul_le_mul_right _ hs
  rw [Nat.add_mul] at h3
  have e1 : 2 * c * (3 * x) = 6 * (c * x) := by
    rw [show 2 * c * (3 * x) = 2 * (c * (3 * x)) by rw [Nat.mul_assoc], Nat.mul_left_comm c 3 x]
    omega
  have e2 : 6 * e * y = 6 * (e * y) := Nat.mul_assoc _ _ _
  omega
