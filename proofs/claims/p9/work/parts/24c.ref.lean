/-- a new unknown under way: n variables of it are chosen, by kf, out of those of another -/
def rf_KW (s u : sx_S) (Vf Tf : Nat → Int) (kf : Nat → Nat) (n : Nat) : Prop := (cx_I u ∧ cx_F [(66, 66), (100, 105), (108, 111), (124, 124)] s u ∧ rf_f [50, 56, 61, 64] s u) ∧ (u.1 66 50 = s.1 66 50 + 1 ∧ u.1 66 61 = s.1 66 61 + 1 ∧ u.1 66 56 = s.1 66 56 + (n : Int) ∧ u.1 66 64 = s.1 66 64 + (n : Int)) ∧ (rf_ag 100 104 (s.1 66 50) s u ∧ rf_ag 105 105 (s.1 66 56) s u ∧ rf_ag 108 109 (s.1 66 61) s u ∧ rf_ag 110 110 (s.1 66 64) s u ∧ rf_ag 111 111 (s.1 66 61) s u) ∧ (u.2.1 100 (s.1 66 50).toNat = 3 ∧ u.2.1 101 (s.1 66 50).toNat = s.1 66 61 ∧ u.2.1 102 (s.1 66 50).toNat = -1 ∧ u.2.1 103 (s.1 66 50).toNat = -1 ∧ u.2.1 104 (s.1 66 50).toNat = s.1 66 56) ∧ (u.2.1 108 (s.1 66 61).toNat = (n : Int) ∧ u.2.1 109 (s.1 66 61).toNat = s.1 66 64 ∧ u.2.1 111 (s.1 66 61).toNat = 0) ∧ ∀ i : Nat, i < n → u.2.1 105 (s.1 66 56 + (i : Int)).toNat = Vf (kf i) ∧ u.2.1 110 (s.1 66 64 + (i : Int)).toNat = Tf (kf i)
theorem rf_KW_0 {s t t2 : sx_S} {z z2 w : Int} {Vf Tf : Nat → Int} {kf : Nat → Nat} (r61 : 0 ≤ s.1 66 61) (r50 : 0 ≤ s.1 66 50) (a2 : cx_F [(66, 66), (108, 109), (111, 111), (124, 124)] s t) (a3 : z = s.1 66 61) (a4 : t.1 66 61 = s.1 66 61 + 1) (a5 : rf_f [61] s t) (a6 : rf_ag 108 111 (s.1 66 61) s t) (a7 : t.2.1 108 z.toNat = 0) (a8 : t.2.1 109 z.toNat = s.1 66 64) (a9 : t.2.1 111 z.toNat = 0) (b1 : cx_I t2) (b2 : cx_F [(66, 66), (100, 103)] t t2) (b3 : z2 = t.1 66 50) (b4 : t2.1 66 50 = t.1 66 50 + 1) (b5 : rf_f [50] t t2) (b6 : rf_ag 100 103 (t.1 66 50) t t2) (b7 : rf_mk t2 z2 3 z) (hw : w = t2.1 66 56) : rf_KW s (t2.1, sx_ua t2.2.1 104 z2.toNat w, t2.2.2) Vf Tf kf 0 := by
  have e50 := a5 50 rfl
  have e56 := a5 56 rfl
  have e64 := a5 64 rfl
  have f56 := b5 56 rfl
  have f61 := b5 61 rfl
  have f64 := b5 64 rfl
  have r56 := b1.fld 66 56 (by decide) rfl
  obtain ⟨m1, m2, m3, m4⟩ := b7 trivial
  subst a3
  have ez2 : z2.toNat = (s.1 66 50).toNat := by omega
  have hF : cx_F [(66, 66), (100, 105), (108, 111), (124, 124)] s t2 := cx_F_step b2 rfl (cx_F_step a2 rfl (cx_F_refl _ _))
  have hf : rf_f [50, 56, 61, 64] s t2 := rf_f_step b5 rfl (rf_f_step a5 rfl (rf_f_refl _ _))
  have o : ∀ p, p ≠ 104 → sx_ua t2.2.1 104 z2.toNat w p = t2.2.1 p := fun p hp => sx_ua_ne hp
  have s104 : ∀ j, sx_ua t2.2.1 104 z2.toNat w 104 j = if j = z2.toNat then w else t2.2.1 104 j := fun j => by rw [sx_ua_same]
  refine ⟨⟨cx_I_ua rfl rfl b1 (by omega) (by omega), cx_F_ua rfl hF, hf⟩, ⟨by show t2.1 66 50 = _; omega, by show t2.1 66 61 = _; omega, by show t2.1 66 56 = _; omega, by show t2.1 66 64 = _; omega⟩, ⟨fun p j hp hq hj => ?_, fun p j hp hq hj => ?_, fun p j hp hq hj => ?_, fun p j hp hq hj => ?_, fun p j hp hq hj => ?_⟩, ⟨?_, ?_, ?_, ?_, ?_⟩, ⟨?_, ?_, ?_⟩, fun i hi => absurd hi (Nat.not_lt_zero _)⟩
  · by_cases c : p = 104
    · subst c
      show sx_ua t2.2.1 104 z2.toNat w 104 j = _
      rw [s104, if_neg (by omega), (b2.same 104 rfl).2, (a2.same 104 rfl).2]
    · show sx_ua t2.2.1 104 z2.toNat w p j = _
      rw [o p c, b6 p j hp (by omega) (by omega)]
      have : cx_outb [(66, 66), (108, 109), (111, 111), (124, 124)] p = true := by
        have : p = 100 ∨ p = 101 ∨ p = 102 ∨ p = 103 := by omega
        rcases this with rfl | rfl | rfl | rfl <;> rfl
      rw [(a2.same p this).2]
  · have : p = 105 := by omega
    subst this
    show sx_ua t2.2.1 104 z2.toNat w 105 j = _
    rw [o 105 (by decide), (b2.same 105 rfl).2, (a2.same 105 rfl).2]
  · show sx_ua t2.2.1 104 z2.toNat w p j = _
    have h1 : p = 108 ∨ p = 109 := by omega
    have h2 : t2.2.1 p = t.2.1 p := by rcases h1 with rfl | rfl <;> exact (b2.same _ rfl).2
    rw [o p (by omega), h2]
    exact a6 p j (by omega) (by omega) hj
  · have : p = 110 := by omega
    subst this
    show sx_ua t2.2.1 104 z2.toNat w 110 j = _
    rw [o 110 (by decide), (b2.same 110 rfl).2, (a2.same 110 rfl).2]
  · have : p = 111 := by omega
    subst this
    show sx_ua t2.2.1 104 z2.toNat w 111 j = _
    rw [o 111 (by decide), (b2.same 111 rfl).2]
    exact a6 111 j (by omega) (by omega) hj
  · show sx_ua t2.2.1 104 z2.toNat w 100 _ = _
    rw [o 100 (by decide), ← ez2]
    exact m1
  · show sx_ua t2.2.1 104 z2.toNat w 101 _ = _
    rw [o 101 (by decide), ← ez2]
    exact m2
  · show sx_ua t2.2.1 104 z2.toNat w 102 _ = _
    rw [o 102 (by decide), ← ez2]
    exact m3
  · show sx_ua t2.2.1 104 z2.toNat w 103 _ = _
    rw [o 103 (by decide), ← ez2]
    exact m4
  · show sx_ua t2.2.1 104 z2.toNat w 104 _ = _
    rw [s104, if_pos ez2.symm]
    omega
  · show sx_ua t2.2.1 104 z2.toNat w 108 _ = _
    rw [o 108 (by decide), (b2.same 108 rfl).2, a7]
    rfl
  · show sx_ua t2.2.1 104 z2.toNat w 109 _ = _
    rw [o 109 (by decide), (b2.same 109 rfl).2, a8]
  · show sx_ua t2.2.1 104 z2.toNat w 111 _ = _
    rw [o 111 (by decide), (b2.same 111 rfl).2, a9]
theorem rf_KW_s {s u t : sx_S} {x4 a1 n' v w : Int} {Vf Tf : Nat → Int} {kf : Nat → Nat} {n k : Nat} (r61 : 0 ≤ s.1 66 61) (r56 : 0 ≤ s.1 66 56) (r64 : 0 ≤ s.1 66 64) (hx4 : x4 = s.1 66 61) (h : rf_KW s u Vf Tf kf n) (a1' : cx_I t) (a2 : cx_F [(66, 66), (108, 108), (110, 110)] u t) (a3 : rf_f [64] u t) (a4 : t.1 66 64 = u.1 66 64 + 1) (a5 : rf_ag 110 110 (u.1 66 64) u t) (a6 : t.2.1 110 (u.1 66 64).toNat = a1) (a7 : rf_ro 108 108 x4 u t) (a8 : t.2.1 108 x4.toNat = u.2.1 108 x4.toNat + 1) (ha1 : a1 = Tf k) (hv : v = Vf k) (hvr : -2147483648 ≤ v ∧ v ≤ 2147483647) (hn : n' = t.1 66 56) (hw : w = t.1 66 56 + 1) (hlim : w ≤ 120000) : rf_KW s (sx_uf t.1 66 56 w, sx_ua t.2.1 105 n'.toNat v, t.2.2) Vf Tf (fun i => if i = n then k else kf i) (n + 1) := by
  obtain ⟨⟨b1, b2, b3⟩, ⟨c1, c2, c3, c4⟩, ⟨d1, d2, d3, d4, d5⟩, ⟨e1, e2, e3, e4, e5⟩, ⟨f1, f2, f3⟩, g⟩ := h
  subst hx4
  have q50 := a3 50 rfl
  have q56 := a3 56 rfl
  have q61 := a3 61 rfl
  have u1 : sx_uf t.1 66 56 w 66 50 = t.1 66 50 := by
    rw [sx_uf_if]
    exact if_neg (fun c => absurd c.2 (by decide))
  have u2 : sx_uf t.1 66 56 w 66 61 = t.1 66 61 := by
    rw [sx_uf_if]
    exact if_neg (fun c => absurd c.2 (by decide))
  have u3 : sx_uf t.1 66 56 w 66 56 = w := by
    rw [sx_uf_if]
    exact if_pos ⟨rfl, rfl⟩
  have u4 : sx_uf t.1 66 56 w 66 64 = t.1 66 64 := by
    rw [sx_uf_if]
    exact if_neg (fun c => absurd c.2 (by decide))
  have o : ∀ p, p ≠ 105 → sx_ua t.2.1 105 n'.toNat v p = t.2.1 p := fun p hp => sx_ua_ne hp
  have s105 : ∀ j, sx_ua t.2.1 105 n'.toNat v 105 j = if j = n'.toNat then v else t.2.1 105 j := fun j => by rw [sx_ua_same]
  have g105 : t.2.1 105 = u.2.1 105 := (a2.same 105 rfl).2
  have hI2 : cx_I (sx_uf t.1 66 56 w, t.2) := cx_I_uf rfl rfl a1' (by have := (a1'.fld 66 56 (by decide) rfl).1; omega) hlim
  refine ⟨⟨cx_I_ua rfl rfl hI2 hvr.1 hvr.2, cx_F_ua rfl (cx_F_uf rfl (cx_F_step a2 rfl b2)), rf_f_uf rfl (rf_f_step a3 rfl b3)⟩, ⟨by dsimp only; omega, by dsimp only; omega, by dsimp only; rw [u3]; push_cast; omega, by dsimp only; rw [u4]; push_cast; omega⟩, ⟨fun p j hp hq hj => ?_, fun p j hp hq hj => ?_, fun p j hp hq hj => ?_, fun p j hp hq hj => ?_, fun p j hp hq hj => ?_⟩, ⟨?_, ?_, ?_, ?_, ?_⟩, ⟨?_, ?_, ?_⟩, fun i hi => ?_⟩
  · show sx_ua t.2.1 105 n'.toNat v p j = _
    have h1 : t.2.1 p = u.2.1 p := by
      have : p = 100 ∨ p = 101 ∨ p = 102 ∨ p = 103 ∨ p = 104 := by omega
      rcases this with rfl | rfl | rfl | rfl | rfl <;> exact (a2.same _ rfl).2
    rw [o p (by omega), h1]
    exact d1 p j hp hq hj
  · have : p = 105 := by omega
    subst this
    show sx_ua t.2.1 105 n'.toNat v 105 j = _
    rw [s105, if_neg (by omega), g105]
    exact d2 105 j hp hq hj
  · show sx_ua t.2.1 105 n'.toNat v p j = _
    rw [o p (by omega)]
    have h1 : p = 108 ∨ p = 109 := by omega
    rcases h1 with rfl | rfl
    · rw [a7 108 j (by omega) (by omega) (by omega)]
      exact d3 108 j hp hq hj
    · rw [(a2.same 109 rfl).2]
      exact d3 109 j hp hq hj
  · have : p = 110 := by omega
    subst this
    show sx_ua t.2.1 105 n'.toNat v 110 j = _
    rw [o 110 (by decide), a5 110 j (by omega) (by omega) (by omega)]
    exact d4 110 j hp hq hj
  · have : p = 111 := by omega
    subst this
    show sx_ua t.2.1 105 n'.toNat v 111 j = _
    rw [o 111 (by decide), (a2.same 111 rfl).2]
    exact d5 111 j hp hq hj
  · show sx_ua t.2.1 105 n'.toNat v 100 _ = _
    rw [o 100 (by decide), (a2.same 100 rfl).2]
    exact e1
  · show sx_ua t.2.1 105 n'.toNat v 101 _ = _
    rw [o 101 (by decide), (a2.same 101 rfl).2]
    exact e2
  · show sx_ua t.2.1 105 n'.toNat v 102 _ = _
    rw [o 102 (by decide), (a2.same 102 rfl).2]
    exact e3
  · show sx_ua t.2.1 105 n'.toNat v 103 _ = _
    rw [o 103 (by decide), (a2.same 103 rfl).2]
    exact e4
  · show sx_ua t.2.1 105 n'.toNat v 104 _ = _
    rw [o 104 (by decide), (a2.same 104 rfl).2]
    exact e5
  · show sx_ua t.2.1 105 n'.toNat v 108 _ = _
    rw [o 108 (by decide), a8, f1]
    push_cast
    rfl
  · show sx_ua t.2.1 105 n'.toNat v 109 _ = _
    rw [o 109 (by decide), (a2.same 109 rfl).2]
    exact f2
  · show sx_ua t.2.1 105 n'.toNat v 111 _ = _
    rw [o 111 (by decide), (a2.same 111 rfl).2]
    exact f3
  · show sx_ua t.2.1 105 n'.toNat v 105 _ = Vf (if i = n then k else kf i) ∧ sx_ua t.2.1 105 n'.toNat v 110 _ = Tf (if i = n then k else kf i)
    rw [s105, o 110 (by decide)]
    by_cases c : i = n
    · subst c
      rw [if_pos rfl, if_pos (by omega), show (s.1 66 64 + (i : Int)).toNat = (u.1 66 64).toNat by omega, a6]
      exact ⟨hv, ha1⟩
    · rw [if_neg c, if_neg (by omega), g105, a5 110 _ (by omega) (by omega) (by omega)]
      exact g i (by omega)
/-- an unknown is given -/
def rf_AS (u t : sx_S) (m row J by' : Int) : Prop := cx_I t ∧ cx_F [(66, 66), (111, 114)] u t ∧ rf_f [70] u t ∧ t.1 66 70 = u.1 66 70 + 1 ∧ rf_ro 111 114 m u t ∧ (t.2.1 111 m.toNat = 1 ∧ t.2.1 112 m.toNat = row ∧ t.2.1 113 m.toNat = J ∧ t.2.1 114 m.toNat = by')
