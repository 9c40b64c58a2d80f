/-! ===== the desk: one number a type ===== -/
def dx_is (s : sx_S) (x : qx_T) (z : Int) : Prop := qx_ty (s.2.1 9) (s.2.1 10) (s.1 8 2) x z
def dx_tu (s t : sx_S) : Prop := ∀ j : Nat, s.1 8 2 ≤ t.1 8 2 ∧ ((j : Int) < s.1 8 2 → t.2.1 9 j = s.2.1 9 j ∧ t.2.1 10 j = s.2.1 10 j)
/-- no two numbers for one type -/
def dx_TI (s : sx_S) : Prop := ∀ i j : Int, 2 ≤ i → i < s.1 8 2 → 2 ≤ j → j < s.1 8 2 → s.2.1 9 i.toNat = s.2.1 9 j.toNat → s.2.1 10 i.toNat = s.2.1 10 j.toNat → i = j
theorem dx_is_up {s t : sx_S} {x : qx_T} {z : Int} (h : dx_is s x z) (hu : dx_tu s t) : dx_is t x z := qx_ty_mono (fun j => (hu j).2) (hu 0).1 h
theorem dx_tu_refl (s : sx_S) : dx_tu s s := fun _ => ⟨Int.le_refl _, fun _ => ⟨rfl, rfl⟩⟩
theorem dx_tu_trans {s t u : sx_S} (h2 : dx_tu t u) (h1 : dx_tu s t) : dx_tu s u := fun j => ⟨Int.le_trans (h1 j).1 (h2 j).1, fun hj => by
  obtain ⟨a1, a2⟩ := (h1 j).2 hj
  obtain ⟨b1, b2⟩ := (h2 j).2 (Int.lt_of_lt_of_le hj (h1 j).1)
  exact ⟨b1.trans a1, b2.trans a2⟩⟩
theorem dx_inj {s : sx_S} (hT : dx_TI s) : ∀ {x : qx_T} {i j : Int}, dx_is s x i → dx_is s x j → i = j
  | .leaf, i, j, h, g => by
    have h0 : i = 0 := h
    have g0 : j = 0 := g
    omega
  | .inner n k _ x y, i, j, h, g => by
    rcases h.2 with ⟨h1, _, _, h2⟩ | ⟨h1, h2, h3, h4⟩ <;> rcases g.2 with ⟨g1, _, _, g2⟩ | ⟨g1, g2, g3, g4⟩
    · omega
    · rw [h1] at g1
      cases g1
    · rw [h1] at g1
      cases g1
    · exact hT i j h2.1 h2.2 g2.1 g2.2 (dx_inj hT h3 g3) (dx_inj hT h4 g4)
theorem dx_rng {s : sx_S} {x : qx_T} {z : Int} (h : dx_is s x z) (h2 : 2 ≤ s.1 8 2) : 0 ≤ z ∧ z < s.1 8 2 := by
  obtain ⟨a1, a2, a3, a4, a5, a6⟩ := qx_ty_01 h
  by_cases q : 2 ≤ z
  · exact ⟨a1, a6 q⟩
  · omega
/-- a new number -/
theorem dx_new {s : sx_S} {a0 a1 : Int} {x y : qx_T} (h2 : 2 ≤ s.1 8 2) (hx : dx_is s x a0) (hy : dx_is s y a1) (hT : dx_TI s) (hn : ∀ z : Int, 2 ≤ z → z < s.1 8 2 → ¬ (s.2.1 9 z.toNat = a0 ∧ s.2.1 10 z.toNat = a1)) : dx_is (sx_uf s.1 8 2 (s.1 8 2 + 1), sx_ua (sx_ua s.2.1 9 (s.1 8 2).toNat a0) 10 (s.1 8 2).toNat a1, s.2.2) (qx_a x y) (s.1 8 2) ∧ dx_TI (sx_uf s.1 8 2 (s.1 8 2 + 1), sx_ua (sx_ua s.2.1 9 (s.1 8 2).toNat a0) 10 (s.1 8 2).toNat a1, s.2.2) ∧ dx_tu s (sx_uf s.1 8 2 (s.1 8 2 + 1), sx_ua (sx_ua s.2.1 9 (s.1 8 2).toNat a0) 10 (s.1 8 2).toNat a1, s.2.2) := by
  have e2 : sx_uf s.1 8 2 (s.1 8 2 + 1) 8 2 = s.1 8 2 + 1 := px_us _ _ _ _
  have c9 : (sx_ua (sx_ua s.2.1 9 (s.1 8 2).toNat a0) 10 (s.1 8 2).toNat a1) 9 = fun j => if j = (s.1 8 2).toNat then a0 else s.2.1 9 j := by
    rw [sx_ua_ne (by decide), sx_ua_same]
  have c10 : (sx_ua (sx_ua s.2.1 9 (s.1 8 2).toNat a0) 10 (s.1 8 2).toNat a1) 10 = fun j => if j = (s.1 8 2).toNat then a1 else s.2.1 10 j := by
    rw [sx_ua_same, sx_ua_ne (by decide)]
  have hu : dx_tu s (sx_uf s.1 8 2 (s.1 8 2 + 1), sx_ua (sx_ua s.2.1 9 (s.1 8 2).toNat a0) 10 (s.1 8 2).toNat a1, s.2.2) := fun j => ⟨by dsimp only; rw [e2]; omega, fun hj => by
    dsimp only
    rw [c9, c10]
    dsimp only
    rw [if_neg (by omega), if_neg (by omega)]
    exact ⟨rfl, rfl⟩⟩
  refine ⟨⟨rfl, Or.inr ⟨rfl, ⟨h2, by dsimp only; rw [e2]; omega⟩, ?_, ?_⟩⟩, fun i j i1 i2 j1 j2 => ?_, hu⟩
  · have := dx_is_up hx hu
    dsimp only
    rw [show (sx_ua (sx_ua s.2.1 9 (s.1 8 2).toNat a0) 10 (s.1 8 2).toNat a1) 9 (s.1 8 2).toNat = a0 by rw [c9]; exact if_pos rfl]
    exact this
  · have := dx_is_up hy hu
    dsimp only
    rw [show (sx_ua (sx_ua s.2.1 9 (s.1 8 2).toNat a0) 10 (s.1 8 2).toNat a1) 10 (s.1 8 2).toNat = a1 by rw [c10]; exact if_pos rfl]
    exact this
  · dsimp only at i2 j2 ⊢
    rw [e2] at i2 j2
    rw [c9, c10]
    dsimp only
    by_cases qi : i = s.1 8 2 <;> by_cases qj : j = s.1 8 2
    · intro _ _
      omega
    · rw [if_pos (by omega), if_neg (by omega), if_pos (by omega), if_neg (by omega)]
      intro q1 q2
      exact absurd ⟨q1.symm, q2.symm⟩ (hn j j1 (by omega))
    · rw [if_neg (by omega), if_pos (by omega), if_neg (by omega), if_pos (by omega)]
      intro q1 q2
      exact absurd ⟨q1, q2⟩ (hn i i1 (by omega))
    · rw [if_neg (by omega), if_neg (by omega), if_neg (by omega), if_neg (by omega)]
      exact hT i j i1 (by omega) j1 (by omega)
theorem c_du_arrow {sL : Nat} {sx : Nat → Int32} (hsL : sL ≤ 3072) (d : Nat) (hd : 2 ≤ d) : ∀ (x y : qx_T) (a0 a1 : Int) (s : sx_S) (R : Int → sx_S → Prop), cx_I s → dx_is s x a0 → dx_is s y a1 → dx_TI s → (2 ≤ s.1 8 2 ∧ s.1 8 2 < 256) → (∀ (z : Int) (t : sx_S), cx_I t → cx_F [(8, 10)] s t → dx_is t (qx_a x y) z → dx_TI t → dx_tu s t → t.1 8 2 ≤ s.1 8 2 + 1 → R z t) → sx_C sL sx d 119 [.inr (.inl 8), .inl a0, .inl a1] s R := by
  intro x y a0 a1 s R hI hx hy hT h2 hK
  have r0 := dx_rng hx h2.1
  have r1 := dx_rng hy h2.1
  refine c_dt_arrow hsL d hd a0 a1 s R hI (by omega) (by omega) h2 (fun z z1 z2 z3 => hK z s hI (cx_F_refl _ _) ⟨rfl, Or.inr ⟨rfl, ⟨z1, z2⟩, by rw [z3.1]; exact hx, by rw [z3.2]; exact hy⟩⟩ hT (dx_tu_refl s) (by omega)) (fun hn => ?_)
  obtain ⟨n1, n2, n3⟩ := dx_new h2.1 hx hy hT hn
  refine hK _ _ (cx_I_uf rfl rfl (cx_I_ua rfl rfl (cx_I_ua rfl rfl hI (by omega) (by omega)) (by omega) (by omega)) (by omega) (by omega)) (cx_F_uf rfl (cx_F_ua rfl (cx_F_ua rfl (cx_F_refl _ _)))) n1 n2 n3 ?_
  dsimp only
  rw [px_us]
  omega
