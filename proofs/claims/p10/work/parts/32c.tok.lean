/-! ===== the reference's tokens, exactly: all of them; names ===== -/
/-- the reference has the first m tokens -/
def px_RT (b : Nat → Int) (n m : Int) (t : sx_S) : Prop := ∀ j : Nat, (j : Int) < m → t.2.1 69 j = px_rc (px_K b n j) ∧ t.2.1 70 j = px_ps b n j ∧ t.2.1 71 j = px_en b n (px_ps b n j) - px_ps b n j
theorem px_RT_0 {b : Nat → Int} {n : Int} {t : sx_S} : px_RT b n 0 t := fun j hj => by omega
theorem px_RT_F {V : List (Nat × Nat)} {b : Nat → Int} {n m : Int} {s t : sx_S} (hF : cx_F V s t) (h1 : cx_outb V 69 = true) (h2 : cx_outb V 70 = true) (h3 : cx_outb V 71 = true) (h : px_RT b n m s) : px_RT b n m t := by
  intro j hj
  rw [(hF.same 69 h1).2, (hF.same 70 h2).2, (hF.same 71 h3).2]
  exact h j hj
theorem px_RT_uf {b : Nat → Int} {n m : Int} {F : Nat → Nat → Int} {B : (Nat → Nat → Int) × (Nat → Nat → Int) × Nat} {p k : Nat} {v : Int} (h : px_RT b n m (F, B)) : px_RT b n m (sx_uf F p k v, B) := h
theorem px_RT_ua {b : Nat → Int} {n m : Int} {F A : Nat → Nat → Int} {B : (Nat → Nat → Int) × Nat} {p k : Nat} {v : Int} (hp : (Nat.beq p 69 || Nat.beq p 70 || Nat.beq p 71) = false) (h : px_RT b n m (F, A, B)) : px_RT b n m (F, sx_ua A p k v, B) := by
  rw [Bool.or_eq_false_iff, Bool.or_eq_false_iff] at hp
  intro j hj
  show sx_ua A p k v 69 j = _ ∧ sx_ua A p k v 70 j = _ ∧ sx_ua A p k v 71 j = _
  rw [sx_ua_ne (fun z => by rw [← z] at hp; exact absurd hp.1.1 (by decide)), sx_ua_ne (fun z => by rw [← z] at hp; exact absurd hp.1.2 (by decide)), sx_ua_ne (fun z => by rw [← z] at hp; exact absurd hp.2 (by decide))]
  exact h j hj
/-- one token more: its place is put down, then its size, then its kind -/
theorem px_RT_up {b : Nat → Int} {n x k z w : Int} {t u : sx_S} (h : px_RT b n x t) (hF : cx_F [(71, 71)] (t.1, sx_ua t.2.1 70 x.toNat k, t.2.2) u) (hg : px_g1 71 x (t.1, sx_ua t.2.1 70 x.toNat k, t.2.2) u) (hz : z = px_rc (px_kd b n k)) (he : u.2.1 71 x.toNat = px_en b n k - k) (h0 : 0 ≤ x) (hk : px_ps b n x.toNat = k) (hw : w = x + 1) : px_RT b n w (u.1, sx_ua u.2.1 69 x.toNat z, u.2.2) := by
  subst hw
  intro j hj
  have e69 : u.2.1 69 = t.2.1 69 := by
    rw [(hF.same 69 rfl).2]
    show sx_ua t.2.1 70 x.toNat k 69 = t.2.1 69
    exact sx_ua_ne (by decide)
  have e70 : ∀ j, u.2.1 70 j = if j = x.toNat then k else t.2.1 70 j := by
    intro j
    rw [(hF.same 70 rfl).2]
    show sx_ua t.2.1 70 x.toNat k 70 j = _
    rw [sx_ua_if, if_pos rfl]
  have e71 : ∀ j : Nat, j ≠ x.toNat → u.2.1 71 j = t.2.1 71 j := by
    intro j hj
    rw [hg j (by omega)]
    show sx_ua t.2.1 70 x.toNat k 71 j = _
    rw [sx_ua_ne (by decide)]
  show sx_ua u.2.1 69 x.toNat z 69 j = _ ∧ sx_ua u.2.1 69 x.toNat z 70 j = _ ∧ sx_ua u.2.1 69 x.toNat z 71 j = _
  rw [sx_ua_if, sx_ua_ne (by decide), sx_ua_ne (by decide), if_pos rfl, e70]
  by_cases c : j = x.toNat
  · subst c
    rw [if_pos rfl, if_pos rfl, he, hz, ← hk]
    exact ⟨rfl, rfl, rfl⟩
  · rw [if_neg c, if_neg c, e69, e71 j c]
    exact h j (by omega)
/-- while cutting: k the place, x tokens so far, y whether there may be more -/
def px_cs (b : Nat → Int) (n k x y : Int) : Prop := True → (y ≠ 0 → x ≤ k ∧ px_lv b n x.toNat ∧ px_ru px_blb b n k = px_ps b n x.toNat) ∧ (y = 0 → 1 ≤ x ∧ px_lv b n (x - 1).toNat ∧ (px_K b n (x - 1).toNat = 0 ∨ px_K b n (x - 1).toNat = 1))
theorem px_lv_0 {b : Nat → Int} {n : Int} : px_lv b n (0 : Int).toNat := fun j hj => absurd hj (Nat.not_lt_zero j)
theorem px_lv_up {b : Nat → Int} {n x w : Int} (h : px_lv b n x.toNat) (h0 : 0 ≤ x) (hk : px_K b n x.toNat ≠ 0 ∧ px_K b n x.toNat ≠ 1) (hw : w = x + 1) : px_lv b n w.toNat := by
  intro j hj
  rcases Nat.lt_or_ge j x.toNat with q | q
  · exact h j q
  · have : j = x.toNat := by omega
    rw [this]
    exact hk
theorem px_cs_0 {b : Nat → Int} {n : Int} : px_cs b n 0 0 1 := fun _ => ⟨fun _ => ⟨Int.le_refl _, px_lv_0, rfl⟩, fun h => absurd h (by decide)⟩
theorem px_cs_go {b : Nat → Int} {n x1 x2 k w y : Int} (h2 : x2 ≤ x1) (hl : px_lv b n x2.toNat) (hs : px_ps b n x2.toNat = x1) (h0 : 0 ≤ x2) (hk : k = px_en b n x1) (h1 : x1 < px_en b n x1) (hz : px_kd b n x1 ≠ 0 ∧ px_kd b n x1 ≠ 1) (hw : w = x2 + 1) (hy : y = 1) : px_cs b n k w y := by
  refine fun _ => ⟨fun _ => ⟨by omega, ?_, ?_⟩, fun h => by omega⟩
  · refine px_lv_up hl h0 ?_ hw
    unfold px_K
    rw [hs]
    exact hz
  · have e : w.toNat = x2.toNat + 1 := by omega
    rw [e, hk, ← hs]
    rfl
theorem px_cs_end {b : Nat → Int} {n x1 x2 k w y : Int} (hl : px_lv b n x2.toNat) (hs : px_ps b n x2.toNat = x1) (h0 : 0 ≤ x2) (hz : px_kd b n x1 = 0 ∨ px_kd b n x1 = 1) (hw : w = x2 + 1) (hy : y = 0) : px_cs b n k w y := by
  have e : (w - 1).toNat = x2.toNat := by omega
  refine fun _ => ⟨fun h => by omega, fun _ => ⟨by omega, by rw [e]; exact hl, ?_⟩⟩
  rw [e]
  unfold px_K
  rw [hs]
  exact hz
/-- all tokens: m of them, the last one the end or none -/
def px_RE (b : Nat → Int) (n m : Int) (t : sx_S) : Prop := (1 ≤ m ∧ m ≤ 241) ∧ px_RT b n m t ∧ px_lv b n (m - 1).toNat ∧ (px_K b n (m - 1).toNat = 0 ∨ px_K b n (m - 1).toNat = 1)
def px_REx (b : Nat → Int) (n : Int) (t : sx_S) : Prop := ∃ m, px_RE b n m t
theorem px_REx_mk {b : Nat → Int} {n k x y : Int} {t : sx_S} (h : px_RT b n x t) (hc : px_cs b n k x y) (hy : y = 0) (hx : x ≤ 241) : px_REx b n t := ⟨x, ⟨((hc trivial).2 hy).1, hx⟩, h, ((hc trivial).2 hy).2⟩
theorem px_rc_k (k : Int) : (k = 0 → px_rc k = 7) ∧ (k = 1 → px_rc k = 8) ∧ (px_rc k = 7 → k = 0) ∧ (px_rc k = 8 → k = 1) := by
  refine ⟨fun h => by rw [h]; rfl, fun h => by rw [h]; rfl, fun h => ?_, fun h => ?_⟩
  · unfold px_rc at h
    (repeat' split at h) <;> omega
  · unfold px_rc at h
    (repeat' split at h) <;> omega
