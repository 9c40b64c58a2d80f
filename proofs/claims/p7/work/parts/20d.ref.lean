/-! ===== the reference: types ===== -/
def rf_is (s : sx_S) (x : rf_T) (t : Int) : Prop := rf_ty (s.2.1 72) (s.2.1 73) (s.1 66 9) x t
def rf_tu (s t : sx_S) : Prop := ∀ j : Nat, s.1 66 9 ≤ t.1 66 9 ∧ ((j : Int) < s.1 66 9 → t.2.1 72 j = s.2.1 72 j ∧ t.2.1 73 j = s.2.1 73 j)
theorem rf_is_up {s t : sx_S} {x : rf_T} {z : Int} (h : rf_is s x z) (hu : rf_tu s t) : rf_is t x z := rf_ty_mono (fun j => (hu j).2) (hu 0).1 h
theorem rf_tu_refl (s : sx_S) : rf_tu s s := fun _ => ⟨Int.le_refl _, fun _ => ⟨rfl, rfl⟩⟩
theorem rf_tu_trans {s t u : sx_S} (h2 : rf_tu t u) (h1 : rf_tu s t) : rf_tu s u := fun j => ⟨Int.le_trans (h1 j).1 (h2 j).1, fun hj => by
  obtain ⟨a1, a2⟩ := (h1 j).2 hj
  obtain ⟨b1, b2⟩ := (h2 j).2 (Int.lt_of_lt_of_le hj (h1 j).1)
  exact ⟨b1.trans a1, b2.trans a2⟩⟩
/-- nothing of the types was touched -/
theorem rf_tu_F {V : List (Nat × Nat)} {W : List Nat} {s t u : sx_S} (hF : cx_F V t u) (h72 : cx_outb V 72 = true) (h73 : cx_outb V 73 = true) (hf : rf_f W t u) (h9 : W.contains 9 = false) (h : rf_tu s t) : rf_tu s u := rf_tu_trans (fun j => ⟨Int.le_of_eq (hf 9 h9).symm, fun _ => ⟨by rw [(hF.same 72 h72).2], by rw [(hF.same 73 h73).2]⟩⟩) h
theorem rf_tu_uf {s : sx_S} {F : Nat → Nat → Int} {B : (Nat → Nat → Int) × (Nat → Nat → Int) × Nat} {k : Nat} {v : Int} (hk : Nat.beq k 9 = false) (h : rf_tu s (F, B)) : rf_tu s (sx_uf F 66 k v, B) := by
  have e : sx_uf F 66 k v 66 9 = F 66 9 := by
    rw [sx_uf_if]
    refine if_neg (fun q => ?_)
    rw [← q.2] at hk
    exact absurd hk (by decide)
  intro j
  refine ⟨?_, (h j).2⟩
  show _ ≤ sx_uf F 66 k v 66 9
  rw [e]
  exact (h j).1
theorem rf_arrow {s t : sx_S} {a b : Int} (h0 : 0 ≤ s.1 66 9) (e0 : t.1 66 9 = s.1 66 9 + 1) (e1 : t.2.1 72 = fun j => if j = (s.1 66 9).toNat then a else s.2.1 72 j) (e2 : t.2.1 73 = fun j => if j = (s.1 66 9).toNat then b else s.2.1 73 j) : rf_tu s t ∧ ∀ x y, 2 ≤ s.1 66 9 → rf_is s x a → rf_is s y b → rf_is t (rf_a x y) (s.1 66 9) := by
  have hu : rf_tu s t := by
    refine fun j => ⟨by omega, fun hj => ?_⟩
    rw [e1, e2]
    dsimp only
    rw [if_neg (by omega), if_neg (by omega)]
    exact ⟨rfl, rfl⟩
  refine ⟨hu, fun x y h2 hx hy => ⟨⟨rfl, h2, by omega⟩, ?_, ?_⟩⟩
  · have q := rf_is_up hx hu
    rw [e1]
    dsimp only
    rw [if_pos rfl, ← e1]
    exact q
  · have q := rf_is_up hy hu
    rw [e2]
    dsimp only
    rw [if_pos rfl, ← e2]
    exact q
def rf_ar (s t : sx_S) (a b z : Int) : Prop := ∀ x y, 2 ≤ s.1 66 9 → rf_is s x a → rf_is s y b → rf_is t (rf_a x y) z
theorem rf_tu_mk {s : sx_S} {B : (Nat → Nat → Int) × Nat} {w n m a b : Int} (h0 : 0 ≤ s.1 66 9) (hw : w = s.1 66 9 + 1) (h1 : n = s.1 66 9) (h2 : m = s.1 66 9) : rf_tu s (sx_uf s.1 66 9 w, sx_ua (sx_ua s.2.1 72 n.toNat a) 73 m.toNat b, B) := by
  subst h1 h2
  refine (rf_arrow (a := a) (b := b) h0 ?_ ?_ ?_).1
  · show sx_uf s.1 66 9 w 66 9 = _
    rw [sx_uf_if, if_pos ⟨rfl, rfl⟩]
    exact hw
  · show sx_ua (sx_ua s.2.1 72 (s.1 66 9).toNat a) 73 (s.1 66 9).toNat b 72 = _
    rw [sx_ua_ne (by decide), sx_ua_same]
  · show sx_ua (sx_ua s.2.1 72 (s.1 66 9).toNat a) 73 (s.1 66 9).toNat b 73 = _
    rw [sx_ua_same, sx_ua_ne (by decide)]
theorem rf_ar_mk {s : sx_S} {B : (Nat → Nat → Int) × Nat} {w n m z a b : Int} (h0 : 0 ≤ s.1 66 9) (hw : w = s.1 66 9 + 1) (h1 : n = s.1 66 9) (h2 : m = s.1 66 9) (hz : z = s.1 66 9) : rf_ar s (sx_uf s.1 66 9 w, sx_ua (sx_ua s.2.1 72 n.toNat a) 73 m.toNat b, B) a b z := by
  subst h1 h2 hz
  refine (rf_arrow h0 ?_ ?_ ?_).2
  · show sx_uf s.1 66 9 w 66 9 = _
    rw [sx_uf_if, if_pos ⟨rfl, rfl⟩]
    exact hw
  · show sx_ua (sx_ua s.2.1 72 (s.1 66 9).toNat a) 73 (s.1 66 9).toNat b 72 = _
    rw [sx_ua_ne (by decide), sx_ua_same]
  · show sx_ua (sx_ua s.2.1 72 (s.1 66 9).toNat a) 73 (s.1 66 9).toNat b 73 = _
    rw [sx_ua_same, sx_ua_ne (by decide)]
def rf_pt (s t : sx_S) (z : Int) : Prop := ∃ x : rf_T, rf_is t x z ∧ (t.1 66 8 = 0 → t.1 66 33 = s.1 66 33 + rf_at x)
theorem rf_pt_b {s t : sx_S} {z : Int} (h0 : 0 ≤ z) (h1 : z < 2) (h : t.1 66 8 = 0 → t.1 66 33 = s.1 66 33 + 1) : rf_pt s t z := ⟨rf_b, ⟨h0, h1⟩, h⟩
theorem rf_pt_take {s r t u : sx_S} {z : Int} (h : rf_pt r t z) (hu : rf_tu t u) (h8 : u.1 66 8 = 0 → t.1 66 8 = 0) (h3 : u.1 66 33 = t.1 66 33) (hs : r.1 66 33 = s.1 66 33) : rf_pt s u z := by
  obtain ⟨x, hx, hx2⟩ := h
  exact ⟨x, rf_is_up hx hu, fun e => by rw [h3, hx2 (h8 e), hs]⟩
theorem rf_pt_arrow {s t r u v : sx_S} {a b z : Int} (h3 : rf_ar u v a b z) (h2 : rf_pt r u b) (h1 : rf_pt s t a) (htu : rf_tu t u) (h9 : 2 ≤ u.1 66 9) (ht8 : v.1 66 8 = 0 → u.1 66 8 = 0 ∧ t.1 66 8 = 0) (e1 : v.1 66 33 = u.1 66 33) (e2 : r.1 66 33 = t.1 66 33) : rf_pt s v z := by
  obtain ⟨x, hx, hx2⟩ := h1
  obtain ⟨y, hy, hy2⟩ := h2
  refine ⟨rf_a x y, h3 x y h9 (rf_is_up hx htu) hy, fun e => ?_⟩
  obtain ⟨q1, q2⟩ := ht8 e
  have := hx2 q2
  have := hy2 q1
  show _ = _ + ((rf_at x + rf_at y : Nat) : Int)
  push_cast
  omega

theorem w_r_arrow {CALL : sx_Ca} {sL : Nat} {sx : Nat → Int32} {Q : Nat → sx_L → sx_S → Prop} {R : Int → sx_S → Prop} {s : sx_S} {a0 a1 : Int} (hI : cx_I s) (p0 : (0 ≤ a0 ∧ a0 ≤ 5999)) (p1 : (0 ≤ a1 ∧ a1 ≤ 5999)) (p2 : (s.1 66 9 ≤ 5999)) (hK : ∀ (z : Int) (t : sx_S), cx_I t → cx_F [(66, 66), (72, 73)] s t → (z = s.1 66 9) → (t.1 66 9 = s.1 66 9 + 1) → (rf_f [9] s t) → (t.1 66 7 = s.1 66 7 ∧ t.1 66 8 = s.1 66 8 ∧ t.1 66 33 = s.1 66 33 ∧ t.1 66 12 = s.1 66 12) → (rf_tu s t) → (rf_ar s t a0 a1 z) → R z t) : sx_wp true sL sx eX12_arrow CALL [] Q R 400 0 (sx_argsF 0 [.inr (.inl 66), .inl a0, .inl a1]) [] s := by
  repeat' (first | (with_reducible intro _) | (refine And.intro ?_ ?_) | (refine hK _ _ ?_ ?_ ?_ ?_ ?_ ?_ ?_ ?_))
  all_goals (try dsimp only)
  repeat' (first | (with_reducible assumption) | ((with_reducible (change cx_I (sx_uf _ _ _ _, _))); refine cx_I_uf rfl rfl ?_ ?_ ?_) | ((with_reducible (change cx_I (_, sx_ua _ _ _ _, _))); refine cx_I_ua rfl rfl ?_ ?_ ?_) | ((with_reducible (change cx_I (_, sx_ua _ 16 _ _, _))); refine cx_I_ari ?_ ?_ ?_) | ((with_reducible (change cx_I (sx_uf _ 11 6 _, _))); refine cx_I_ufA rfl ?_ ?_ ?_ ?_) | (with_reducible exact cx_F_refl _ _) | ((with_reducible (change cx_F _ _ (sx_uf _ _ _ _, _))); refine cx_F_uf rfl ?_) | ((with_reducible (change cx_F _ _ (_, sx_ua _ _ _ _, _))); refine cx_F_ua rfl ?_) | ((with_reducible (change cx_I (_, sx_cpy _ _ _ _ _ _, _))); refine cx_I_cpy rfl rfl rfl (by decide) ?_) | ((with_reducible (change cx_F _ _ (_, sx_cpy _ _ _ _ _ _, _))); refine cx_F_cpy rfl ?_) | ((with_reducible (change cx_F _ _ _)); refine cx_F_step (by assumption) rfl ?_) | ((with_reducible (change rf_f _ _ (sx_uf _ 66 _ _, _))); refine rf_f_uf rfl ?_) | ((with_reducible (change rf_f _ _ _)); exact (fun _ _ => rfl)) | ((with_reducible (change rf_f _ _ (_, sx_ua _ _ _ _, _))); refine rf_f_ua ?_) | ((with_reducible (change rf_f _ _ _)); assumption) | ((with_reducible (change rf_f _ _ _)); refine rf_f_step (by assumption) rfl ?_) | ((with_reducible (change rf_f _ _ _)); refine rf_f_F (by assumption) rfl ?_) | ((with_reducible (change rf_A _ (sx_uf _ _ _ _, _))); refine rf_A_uf ?_) | ((with_reducible (change rf_A _ (_, sx_ua _ _ _ _, _))); refine rf_A_ua rfl ?_) | ((with_reducible (change rf_A _ _)); assumption) | ((with_reducible (change rf_A _ _)); refine rf_A_F (by assumption) rfl ?_) | fail)
  all_goals (first | trivial | omega | (dsimp only at *; omega) | (simp only [sx_uf_if, sx_ua_if, sx_w_t, true_and, and_true, and_self, and_false, false_and, if_true, if_false, reduceIte] at *; omega) | (refine rf_tu_mk (by omega) (by simp only [sx_uf_if, sx_ua_if, sx_w_t, true_and, and_true, and_self, and_false, false_and, if_true, if_false, reduceIte] at *; omega) (by omega) (by omega)) | (refine rf_ar_mk (by omega) (by simp only [sx_uf_if, sx_ua_if, sx_w_t, true_and, and_true, and_self, and_false, false_and, if_true, if_false, reduceIte] at *; omega) (by omega) (by omega) (by simp only [sx_uf_if, sx_ua_if, sx_w_t, true_and, and_true, and_self, and_false, false_and, if_true, if_false, reduceIte] at *; omega)))

theorem c_r_arrow {sL : Nat} {sx : Nat → Int32} (hsL : sL ≤ 3072) (d : Nat) (hd : 2 ≤ d) : ∀ (a0 a1 : Int) (s : sx_S) (K : Int → sx_S → Prop), cx_I s → (0 ≤ a0 ∧ a0 ≤ 5999) → (0 ≤ a1 ∧ a1 ≤ 5999) → (s.1 66 9 ≤ 5999) → (∀ (z : Int) (t : sx_S), cx_I t → cx_F [(66, 66), (72, 73)] s t → (z = s.1 66 9) → (t.1 66 9 = s.1 66 9 + 1) → (rf_f [9] s t) → (t.1 66 7 = s.1 66 7 ∧ t.1 66 8 = s.1 66 8 ∧ t.1 66 33 = s.1 66 33 ∧ t.1 66 12 = s.1 66 12) → (rf_tu s t) → (rf_ar s t a0 a1 z) → K z t) → sx_C sL sx d 159 [.inr (.inl 66), .inl a0, .inl a1] s K := by
  intro a0 a1 s K hI p0 p1 p2 hK
  obtain ⟨d, rfl⟩ : ∃ e, d = e + 2 := ⟨d - 2, by omega⟩
  exact sx_meth (wr := true) (n := 400) hsL (e := eX12_arrow) rfl (w_r_arrow (Q := fun _ _ _ => False)  hI p0 p1 p2 hK)
