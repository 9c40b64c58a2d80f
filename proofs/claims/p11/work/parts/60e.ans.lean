/-! ===== the desk's answers: settle; narrow ===== -/
theorem w_dv_set {CALL : sx_Ca} {sL : Nat} {sx : Nat → Int32} {Q : Nat → sx_L → sx_S → Prop} {R : Int → sx_S → Prop} {s : sx_S} {a0 a1 : Int} (hI : cx_I s) (p0 : -2147483648 ≤ a0 ∧ a0 ≤ 2147483647) (p1 : -2147483648 ≤ a1 ∧ a1 ≤ 2147483647) (hQ : Q 12 [(0, .inr (.inl 33)), (3, .inl 0)] (sx_uf (sx_uf s.1 33 7 a0) 33 8 a1, s.2)) : sx_wp true sL sx eX0_settle CALL [(12, [0, 3])] Q R 400 0 (sx_argsF 0 [.inr (.inl 33), .inl a0, .inl a1]) [] s := by
  repeat' (first | (with_reducible (rintro _ rfl)) | (with_reducible intro _) | (refine And.intro ?_ ?_))
  all_goals (try dsimp only at *)
  all_goals (first | trivial | assumption | omega | (exfalso; omega) | skip)
theorem w_dv_set12 {CALL : sx_Ca} {sL : Nat} {sx : Nat → Int32} {Q : Nat → sx_L → sx_S → Prop} {R : Int → sx_S → Prop} (h_kind : ∀ (a0 : Int) (s : sx_S) (K : Int → sx_S → Prop), cx_I s → (-2147483648 ≤ a0 ∧ a0 ≤ 2147483647) → (∀ z : Int, (0 ≤ a0 → a0 < s.1 11 6 → z = s.2.1 12 a0.toNat) → (a0 < 0 → z = -1) → K z s) → CALL 91 [.inr (.inl 11), .inl a0] s K) (h_head : ∀ (a0 : Int) (s : sx_S) (K : Int → sx_S → Prop), cx_I s → (-2147483648 ≤ a0 ∧ a0 ≤ 2147483647) → (∀ z : Int, (0 ≤ a0 → a0 < s.1 11 6 → z = s.2.1 13 a0.toNat) → (a0 < 0 → z = -1) → K z s) → CALL 92 [.inr (.inl 11), .inl a0] s K) (h_body : ∀ (a0 : Int) (s : sx_S) (K : Int → sx_S → Prop), cx_I s → (-2147483648 ≤ a0 ∧ a0 ≤ 2147483647) → (∀ z : Int, (0 ≤ a0 → a0 < s.1 33 6 → z = s.2.1 34 a0.toNat) → (a0 < 0 → z = -1) → K z s) → CALL 4 [.inr (.inl 33), .inl a0] s K) {s : sx_S} {x3 y z k m b : Int} {G : Int → sx_S → Prop} (h_ins : y = 3 → 0 ≤ b → ∀ K : Int → sx_S → Prop, (∀ k' t, G k' t → K k' t) → CALL 6 [.inr (.inl 33), .inl z, .inl k] s K) (hG : ∀ k' t, G k' t → cx_I t ∧ -2147483648 ≤ k' ∧ k' ≤ 2147483647) (hI : cx_I s) (e7 : s.1 33 7 = z) (e8 : s.1 33 8 = k) (pz : 0 ≤ z ∧ z < s.1 11 6) (ey : s.2.1 12 z.toNat = y) (em : s.2.1 13 z.toNat = m) (pm : y = 3 → 0 ≤ m ∧ m < s.1 33 6) (eb : y = 3 → s.2.1 34 m.toNat = b) (q3 : 0 ≤ x3 ∧ x3 ≤ 32) (hK : 32 ≤ x3 ∨ y ≠ 3 ∨ b < 0 → R 0 s) (hQ : x3 < 32 → y = 3 → 0 ≤ b → ∀ k' t, G k' t → cx_I (sx_uf (sx_uf t.1 33 8 k') 33 7 b, t.2) → Q 12 [(0, .inr (.inl 33)), (3, .inl (x3 + 1))] (sx_uf (sx_uf t.1 33 8 k') 33 7 b, t.2)) : sx_wp true sL sx eX0_settle CALL [(12, [0, 3])] Q R 400 12 [(0, .inr (.inl 33)), (3, .inl x3)] [] s := by
  have h0 := hI.fld 11 6 (by decide) rfl
  have h33 := hI.fld 33 6 (by decide) rfl
  have h34 := hI.arr 34 (by decide) rfl m.toNat
  have h13 := hI.arr 13 (by decide) rfl z.toNat
  have h12 := hI.arr 12 (by decide) rfl z.toNat
  have zzy : sx_w true (x3 + 1) = x3 + 1 := px_wid (by omega) (by omega)
  have hbr : y = 3 → -2147483648 ≤ b ∧ b ≤ 2147483647 := fun h => by rw [← eb h]; exact h34
  repeat' (first | (with_reducible (rintro _ rfl)) | (with_reducible intro _) | (refine And.intro ?_ ?_) | (rw [e7]; refine h_kind _ _ _ hI (by omega) (fun v v1 v2 => ?_); obtain rfl : v = y := (v1 pz.1 pz.2).trans ey) | (rw [e7]; refine h_head _ _ _ hI (by omega) (fun v v1 v2 => ?_); obtain rfl : v = m := (v1 pz.1 pz.2).trans em) | (refine h_body _ _ _ hI (by omega) (fun v v1 v2 => ?_); obtain rfl : v = b := (v1 (pm (by omega)).1 (pm (by omega)).2).trans (eb (by omega))) | (rw [e7, e8]; refine h_ins (by omega) (by omega) _ (fun k' t ht => ?_)))
  all_goals (try dsimp only at *)
  all_goals (first | trivial | assumption | omega | (exfalso; omega) | (exact hK (by omega)) | (have zz8 := hbr (by omega); omega) | (obtain ⟨g1, g2, g3⟩ := hG _ _ ht; have zz9 := hQ (by omega) (by omega) (by omega) _ _ ht (cx_I_uf rfl rfl (cx_I_uf rfl rfl g1 (by omega) (by omega)) (by omega) (by omega)); rw [← zzy] at zz9; exact zz9) | skip)
theorem c_dv_set {sL : Nat} {sx : Nat → Int32} (hsL : sL ≤ 3072) (d : Nat) (hd : 4 ≤ d) : ∀ (a0 a1 : Int) (s : sx_S) (K : Int → sx_S → Prop) (J : Nat → Int → Int → sx_S → Prop), J 32 a0 a1 s → (∀ n z k u, J n z k u → cx_I u ∧ (0 ≤ z ∧ z < u.1 11 6) ∧ (-2147483648 ≤ k ∧ k ≤ 2147483647)) → (∀ n z k u v w, J n z k u → (-2147483648 ≤ v ∧ v ≤ 2147483647) → (-2147483648 ≤ w ∧ w ≤ 2147483647) → J n z k (sx_uf (sx_uf u.1 33 7 v) 33 8 w, u.2) ∧ J n z k (sx_uf (sx_uf u.1 33 8 v) 33 7 w, u.2)) → (∀ n z k u, J n z k u → u.2.1 12 z.toNat = 3 → (0 ≤ u.2.1 13 z.toNat ∧ u.2.1 13 z.toNat < u.1 33 6) ∧ (0 ≤ u.2.1 34 (u.2.1 13 z.toNat).toNat → ∃ n', n = n' + 1 ∧ ∀ G : Int → sx_S → Prop, (∀ k' t, J n' (u.2.1 34 (u.2.1 13 z.toNat).toNat) k' t → G k' t) → sx_C sL sx (d - 1) 6 [.inr (.inl 33), .inl z, .inl k] u G)) → (∀ n z k u, J n z k u → u.1 33 7 = z → u.1 33 8 = k → (u.2.1 12 z.toNat = 3 → u.2.1 34 (u.2.1 13 z.toNat).toNat < 0) → K 0 u) → sx_C sL sx d 5 [.inr (.inl 33), .inl a0, .inl a1] s K := by
  intro a0 a1 s K J j0 j1 j2 j3 hK
  obtain ⟨d, rfl⟩ : ∃ e, d = e + 2 := ⟨d - 2, by omega⟩
  obtain ⟨hI, r0, r1⟩ := j1 _ _ _ _ j0
  have h0 := hI.fld 11 6 (by decide) rfl
  refine sx_methL (wr := true) (n := 400) (n' := 400) (stop := [(12, [0, 3])]) (fun nn pc ls u => pc = 12 ∧ ∃ (z k : Int) (x3 : Nat), ls = [(0, .inr (.inl 33)), (3, .inl (x3 : Int))] ∧ J nn z k u ∧ (u.1 33 7 = z ∧ u.1 33 8 = k) ∧ nn + x3 = 32) hsL (e := eX0_settle) rfl ?_ ?_
  · exact w_dv_set hI (by omega) r1 ⟨32, rfl, a0, a1, 0, rfl, (j2 _ _ _ _ _ _ j0 (by omega) r1).1, ⟨by show sx_uf (sx_uf s.1 33 7 a0) 33 8 a1 33 7 = a0; rw [sx_uf_if, if_neg (by omega), px_us], by show sx_uf (sx_uf s.1 33 7 a0) 33 8 a1 33 8 = a1; rw [px_us]⟩, rfl⟩
  · rintro nn pc ls u ⟨rfl, z, k, x3, rfl, i1, ⟨i2, i3⟩, i4⟩
    obtain ⟨kI, k0, k1⟩ := j1 _ _ _ _ i1
    by_cases hy : u.2.1 12 z.toNat = 3
    · obtain ⟨m1, m2⟩ := j3 _ _ _ _ i1 hy
      by_cases hb : 0 ≤ u.2.1 34 (u.2.1 13 z.toNat).toNat
      · obtain ⟨n', en, m3⟩ := m2 hb
        refine w_dv_set12 (z := z) (k := k) (G := fun k' t => J n' (u.2.1 34 (u.2.1 13 z.toNat).toNat) k' t) (c_dz_kind hsL (d + 1) (by omega)) (c_dz_head hsL (d + 1) (by omega)) (c_dv_body hsL (d + 1) (by omega)) (fun _ _ G hG => m3 G hG) (fun k' t ht => ?_) kI i2 i3 k0 rfl rfl (fun _ => m1) (fun _ => rfl) (by omega) (fun h => ?_) (fun _ _ _ k' t ht _ => ?_)
        · obtain ⟨a, _, b⟩ := j1 _ _ _ _ ht
          exact ⟨a, b.1, b.2⟩
        · exact absurd h (by omega)
        · obtain ⟨y1, y2, y3⟩ := j1 _ _ _ _ ht
          have y4 := y1.fld 11 6 (by decide) rfl
          exact ⟨n', by omega, rfl, u.2.1 34 (u.2.1 13 z.toNat).toNat, k', x3 + 1, rfl, (j2 _ _ _ _ _ _ ht y3 (by omega)).2, ⟨by show sx_uf (sx_uf t.1 33 8 k') 33 7 (u.2.1 34 (u.2.1 13 z.toNat).toNat) 33 7 = _; rw [px_us], by show sx_uf (sx_uf t.1 33 8 k') 33 7 (u.2.1 34 (u.2.1 13 z.toNat).toNat) 33 8 = _; rw [sx_uf_if, if_neg (by omega), px_us]⟩, by omega⟩
      · refine w_dv_set12 (z := z) (k := k) (G := fun _ _ => False) (c_dz_kind hsL (d + 1) (by omega)) (c_dz_head hsL (d + 1) (by omega)) (c_dv_body hsL (d + 1) (by omega)) (fun _ h => absurd h hb) (fun _ _ h => h.elim) kI i2 i3 k0 rfl rfl (fun _ => m1) (fun _ => rfl) (by omega) (fun _ => hK _ _ _ _ i1 i2 i3 (fun _ => by omega)) (fun _ _ h => absurd h hb)
    · exact w_dv_set12 (z := z) (k := k) (b := 0) (G := fun _ _ => False) (c_dz_kind hsL (d + 1) (by omega)) (c_dz_head hsL (d + 1) (by omega)) (c_dv_body hsL (d + 1) (by omega)) (fun h => absurd h hy) (fun _ _ h => h.elim) kI i2 i3 k0 rfl rfl (fun h => absurd h hy) (fun h => absurd h hy) (by omega) (fun _ => hK _ _ _ _ i1 i2 i3 (fun h => absurd h hy)) (fun _ h => absurd h hy)
