/-! ===== the desk: what is read twice, as functions of the state ===== -/
def cx_HD (s : sx_S) (a : Int) : Int := if 0 ≤ a ∧ a < s.1 11 6 then s.2.1 13 a.toNat else -1
def cx_FI (s : sx_S) (a : Int) : Int := if 0 ≤ a ∧ a < s.1 11 6 then s.2.1 14 a.toNat else -1
def cx_AG (s : sx_S) : Nat → Int → Int
  | 0, x => x
  | n + 1, x => if 0 ≤ x then cx_AG s n (s.2.1 15 x.toNat) else x
def cx_OF (s : sx_S) (v : Int) : Nat → Int → Int
  | 0, _ => -1
  | n + 1, l => if 0 ≤ l ∧ l < s.1 29 3 then (if s.2.1 30 l.toNat = v then s.2.1 31 l.toNat else cx_OF s v n (s.2.1 32 l.toNat)) else -1
theorem cx_HD_in {s : sx_S} {a v : Int} (h0 : 0 ≤ a) (h1 : a < s.1 11 6) (h : v = s.2.1 13 a.toNat) : v = cx_HD s a := by
  unfold cx_HD
  rw [if_pos ⟨h0, h1⟩]
  exact h
theorem cx_HD_out {s : sx_S} {a : Int} (h : a < 0 ∨ s.1 11 6 ≤ a) : -1 = cx_HD s a := by
  unfold cx_HD
  rw [if_neg (by omega)]
theorem cx_FI_in {s : sx_S} {a v : Int} (h0 : 0 ≤ a) (h1 : a < s.1 11 6) (h : v = s.2.1 14 a.toNat) : v = cx_FI s a := by
  unfold cx_FI
  rw [if_pos ⟨h0, h1⟩]
  exact h
theorem cx_FI_out {s : sx_S} {a : Int} (h : a < 0 ∨ s.1 11 6 ≤ a) : -1 = cx_FI s a := by
  unfold cx_FI
  rw [if_neg (by omega)]
theorem cx_AG_neg {s : sx_S} {x : Int} (h : x < 0) : ∀ n, cx_AG s n x = x
  | 0 => rfl
  | n + 1 => by
    unfold cx_AG
    rw [if_neg (by omega)]
theorem cx_AG_end {s : sx_S} {x j k c : Int} (h : j ≤ k ∨ x < 0) (q : cx_AG s (j - k).toNat x = c) : x = c := by
  rcases h with h | h
  · rw [show (j - k).toNat = 0 by omega] at q
    exact q
  · rw [cx_AG_neg h] at q
    exact q
theorem cx_AG_step {s : sx_S} {x y j k k' c : Int} (h : k < j) (hx : 0 ≤ x) (hk : k' = k + 1) (hy : y = s.2.1 15 x.toNat) (q : cx_AG s (j - k).toNat x = c) : cx_AG s (j - k').toNat y = c := by
  rw [show (j - k).toNat = (j - k').toNat + 1 by omega] at q
  unfold cx_AG at q
  rw [if_pos hx] at q
  rw [hy]
  exact q
theorem cx_AG_beg {s : sx_S} {x j c : Int} (h : x = c) : cx_AG s (j - 0).toNat x = cx_AG s j.toNat c := by
  rw [h, Int.sub_zero]
theorem cx_OF_end {s : sx_S} {v l k c : Int} (h : 1024 ≤ k ∨ l < 0 ∨ s.1 29 3 ≤ l) (q : cx_OF s v (1024 - k).toNat l = c) : -1 = c := by
  rcases h with h | h
  · rw [show (1024 - k).toNat = 0 by omega] at q
    exact q
  · cases hn : (1024 - k).toNat with
    | zero =>
      rw [hn] at q
      exact q
    | succ n =>
      rw [hn] at q
      unfold cx_OF at q
      rw [if_neg (by omega)] at q
      exact q
theorem cx_OF_hit {s : sx_S} {v l k c w x : Int} (h : k < 1024) (h0 : 0 ≤ l) (h1 : l < s.1 29 3) (hw : w = s.2.1 30 l.toNat) (e : w = v) (hx : x = s.2.1 31 l.toNat) (q : cx_OF s v (1024 - k).toNat l = c) : x = c := by
  rw [show (1024 - k).toNat = (1024 - (k + 1)).toNat + 1 by omega] at q
  unfold cx_OF at q
  rw [if_pos ⟨h0, h1⟩, if_pos (hw ▸ e)] at q
  rw [hx]
  exact q
theorem cx_OF_go {s : sx_S} {v l k k' c w y : Int} (h : k < 1024) (h0 : 0 ≤ l) (h1 : l < s.1 29 3) (hw : w = s.2.1 30 l.toNat) (e : w ≠ v) (hk : k' = k + 1) (hy : y = s.2.1 32 l.toNat) (q : cx_OF s v (1024 - k).toNat l = c) : cx_OF s v (1024 - k').toNat y = c := by
  rw [show (1024 - k).toNat = (1024 - k').toNat + 1 by omega] at q
  unfold cx_OF at q
  rw [if_pos ⟨h0, h1⟩, if_neg (hw ▸ e)] at q
  rw [hy]
  exact q
theorem cx_HD_uf {F : Nat → Nat → Int} {B : (Nat → Nat → Int) × (Nat → Nat → Int) × Nat} {p k : Nat} {v a : Int} (h : Nat.beq p 11 = false) : cx_HD (sx_uf F p k v, B) a = cx_HD (F, B) a := by
  have e : sx_uf F p k v 11 = F 11 := sx_fv_ne (fun q => by rw [← q] at h; exact absurd h (by decide))
  show (if 0 ≤ a ∧ a < sx_uf F p k v 11 6 then _ else _) = _
  rw [e]
  rfl
theorem cx_HD_ua {F A : Nat → Nat → Int} {B : (Nat → Nat → Int) × Nat} {p k : Nat} {v a : Int} (h : Nat.beq p 13 = false) : cx_HD (F, sx_ua A p k v, B) a = cx_HD (F, A, B) a := by
  have e : sx_ua A p k v 13 = A 13 := sx_ua_ne (fun q => by rw [← q] at h; exact absurd h (by decide))
  show (if _ then sx_ua A p k v 13 _ else _) = _
  rw [e]
  rfl
def cx_LV (s : sx_S) (call chain j : Int) : Int := cx_OF s (cx_HD s (cx_AG s j.toNat (cx_FI s call))) 1024 chain

theorem w_teheadF {CALL : sx_Ca} {sL : Nat} {sx : Nat → Int32} {Q : Nat → sx_L → sx_S → Prop} {R : Int → sx_S → Prop} {s : sx_S} {a0 : Int} (hI : cx_I s) (p0 : (-2147483648 ≤ a0 ∧ a0 ≤ 2147483647)) (hK : ∀ z : Int, (-2147483648 ≤ z ∧ z ≤ 2147483647) → (z = cx_HD s a0) → R z s) : sx_wp true sL sx eX7_head CALL [] Q R 400 0 (sx_argsF 0 [.inr (.inl 11), .inl a0]) [] s := by
  repeat' (first | (with_reducible intro _) | (refine And.intro ?_ ?_) | (refine hK _ ?_ ?_))
  all_goals (try dsimp only)
  repeat' (first | (with_reducible assumption) | ((with_reducible (change cx_I (sx_uf _ _ _ _, _))); refine cx_I_uf rfl rfl ?_ ?_ ?_) | ((with_reducible (change cx_I (_, sx_ua _ _ _ _, _))); refine cx_I_ua rfl rfl ?_ ?_ ?_) | ((with_reducible (change cx_I (_, sx_ua _ 16 _ _, _))); refine cx_I_ari ?_ ?_ ?_) | ((with_reducible (change cx_I (sx_uf _ 11 6 _, _))); refine cx_I_ufA rfl ?_ ?_ ?_ ?_) | (with_reducible exact cx_F_refl _ _) | ((with_reducible (change cx_F _ _ (sx_uf _ _ _ _, _))); refine cx_F_uf rfl ?_) | ((with_reducible (change cx_F _ _ (_, sx_ua _ _ _ _, _))); refine cx_F_ua rfl ?_) | ((with_reducible (change cx_I (_, sx_cpy _ _ _ _ _ _, _))); refine cx_I_cpy rfl rfl rfl (by decide) ?_) | ((with_reducible (change cx_F _ _ (_, sx_cpy _ _ _ _ _ _, _))); refine cx_F_cpy rfl ?_) | ((with_reducible (change cx_F _ _ _)); refine cx_F_step (by assumption) rfl ?_) | fail)
  all_goals (first | trivial | omega | (exact cx_HD_in (by omega) (by omega) (by assumption)) | (exact cx_HD_in (by omega) (by omega) (by omega)) | (exact cx_HD_out (by omega)) | (dsimp only at *; omega))

theorem c_teheadF {sL : Nat} {sx : Nat → Int32} (hsL : sL ≤ 3072) (d : Nat) (hd : 2 ≤ d) : ∀ (a0 : Int) (s : sx_S) (K : Int → sx_S → Prop), cx_I s → (-2147483648 ≤ a0 ∧ a0 ≤ 2147483647) → (∀ z : Int, (-2147483648 ≤ z ∧ z ≤ 2147483647) → (z = cx_HD s a0) → K z s) → sx_C sL sx d 92 [.inr (.inl 11), .inl a0] s K := by
  intro a0 s K hI p0 hK
  obtain ⟨d, rfl⟩ : ∃ e, d = e + 2 := ⟨d - 2, by omega⟩
  exact sx_meth (wr := true) (n := 400) hsL (e := eX7_head) rfl (w_teheadF (Q := fun _ _ _ => False)  hI p0 hK)

theorem w_argumentF {CALL : sx_Ca} {sL : Nat} {sx : Nat → Int32} {Q : Nat → sx_L → sx_S → Prop} {R : Int → sx_S → Prop} {s : sx_S} {a0 a1 : Int} (hI : cx_I s) (p0 : (-2147483648 ≤ a0 ∧ a0 ≤ 2147483647)) (p1 : (-2147483648 ≤ a1 ∧ a1 ≤ 2147483647)) (hK : ∀ z : Int, (-1 ≤ z ∧ z ≤ 1023) → (z = cx_AG s a1.toNat (cx_FI s a0)) → R z s) (hQ26 : ∀ (x2 x3 x4 : Int) (_ : True), (-2147483648 ≤ x2 ∧ x2 ≤ 2147483647) → (-1 ≤ x3 ∧ x3 ≤ 1023) → (0 ≤ x4 ∧ x4 ≤ 2147483647) → (x2 = a1) → (0 ≤ x4) → (cx_AG s (x2 - x4).toNat x3 = cx_AG s a1.toNat (cx_FI s a0)) → Q 26 [(0, .inr (.inl 11)), (2, .inl x2), (3, .inl x3), (4, .inl x4)] s) : sx_wp true sL sx eX7_argument CALL [(26, [0, 2, 3, 4])] Q R 400 0 (sx_argsF 0 [.inr (.inl 11), .inl a0, .inl a1]) [] s := by
  repeat' (first | (with_reducible intro _) | (refine And.intro ?_ ?_) | (refine hK _ ?_ ?_) | (refine hQ26 _ _ _ trivial ?_ ?_ ?_ ?_ ?_ ?_))
  all_goals (try dsimp only)
  repeat' (first | (with_reducible assumption) | ((with_reducible (change cx_I (sx_uf _ _ _ _, _))); refine cx_I_uf rfl rfl ?_ ?_ ?_) | ((with_reducible (change cx_I (_, sx_ua _ _ _ _, _))); refine cx_I_ua rfl rfl ?_ ?_ ?_) | ((with_reducible (change cx_I (_, sx_ua _ 16 _ _, _))); refine cx_I_ari ?_ ?_ ?_) | ((with_reducible (change cx_I (sx_uf _ 11 6 _, _))); refine cx_I_ufA rfl ?_ ?_ ?_ ?_) | (with_reducible exact cx_F_refl _ _) | ((with_reducible (change cx_F _ _ (sx_uf _ _ _ _, _))); refine cx_F_uf rfl ?_) | ((with_reducible (change cx_F _ _ (_, sx_ua _ _ _ _, _))); refine cx_F_ua rfl ?_) | ((with_reducible (change cx_I (_, sx_cpy _ _ _ _ _ _, _))); refine cx_I_cpy rfl rfl rfl (by decide) ?_) | ((with_reducible (change cx_F _ _ (_, sx_cpy _ _ _ _ _ _, _))); refine cx_F_cpy rfl ?_) | ((with_reducible (change cx_F _ _ _)); refine cx_F_step (by assumption) rfl ?_) | fail)
  all_goals (first | trivial | omega | (exact cx_AG_beg (cx_FI_in (by omega) (by omega) (by omega))) | (exact cx_AG_beg (cx_FI_out (by omega))) | (subst i3; exact cx_AG_end (by omega) i5) | (exact cx_AG_end (by omega) i5) | (exact cx_AG_step (by omega) (by omega) (by simp only [sx_w_t]; omega) (by omega) i5) | (simp only [sx_w_t]; omega))

theorem w_argumentF_26 {CALL : sx_Ca} {sL : Nat} {sx : Nat → Int32} {Q : Nat → sx_L → sx_S → Prop} {R : Int → sx_S → Prop} {s : sx_S} {a0 a1 : Int} (hI : cx_I s) (p0 : (-2147483648 ≤ a0 ∧ a0 ≤ 2147483647)) (p1 : (-2147483648 ≤ a1 ∧ a1 ≤ 2147483647)) (hK : ∀ z : Int, (-1 ≤ z ∧ z ≤ 1023) → (z = cx_AG s a1.toNat (cx_FI s a0)) → R z s) {x2 x3 x4 : Int} {mm : Nat} (hm : mm = 17179869184 + (2147483647 - x4).toNat) (i0 : (-2147483648 ≤ x2 ∧ x2 ≤ 2147483647)) (i1 : (-1 ≤ x3 ∧ x3 ≤ 1023)) (i2 : (0 ≤ x4 ∧ x4 ≤ 2147483647)) (i3 : (x2 = a1)) (i4 : (0 ≤ x4)) (i5 : (cx_AG s (x2 - x4).toNat x3 = cx_AG s a1.toNat (cx_FI s a0))) (hQ26 : ∀ (x2 x3 x4 : Int) (_ : True), (-2147483648 ≤ x2 ∧ x2 ≤ 2147483647) → (-1 ≤ x3 ∧ x3 ≤ 1023) → (0 ≤ x4 ∧ x4 ≤ 2147483647) → (x2 = a1) → (0 ≤ x4) → (cx_AG s (x2 - x4).toNat x3 = cx_AG s a1.toNat (cx_FI s a0)) → (17179869184 + (2147483647 - x4).toNat < mm) → Q 26 [(0, .inr (.inl 11)), (2, .inl x2), (3, .inl x3), (4, .inl x4)] s) : sx_wp true sL sx eX7_argument CALL [(26, [0, 2, 3, 4])] Q R 400 26 [(0, .inr (.inl 11)), (2, .inl x2), (3, .inl x3), (4, .inl x4)] [] s := by
  repeat' (first | (with_reducible intro _) | (refine And.intro ?_ ?_) | (refine hK _ ?_ ?_) | (refine hQ26 _ _ _ trivial ?_ ?_ ?_ ?_ ?_ ?_ ?_))
  all_goals (try dsimp only)
  repeat' (first | (with_reducible assumption) | ((with_reducible (change cx_I (sx_uf _ _ _ _, _))); refine cx_I_uf rfl rfl ?_ ?_ ?_) | ((with_reducible (change cx_I (_, sx_ua _ _ _ _, _))); refine cx_I_ua rfl rfl ?_ ?_ ?_) | ((with_reducible (change cx_I (_, sx_ua _ 16 _ _, _))); refine cx_I_ari ?_ ?_ ?_) | ((with_reducible (change cx_I (sx_uf _ 11 6 _, _))); refine cx_I_ufA rfl ?_ ?_ ?_ ?_) | (with_reducible exact cx_F_refl _ _) | ((with_reducible (change cx_F _ _ (sx_uf _ _ _ _, _))); refine cx_F_uf rfl ?_) | ((with_reducible (change cx_F _ _ (_, sx_ua _ _ _ _, _))); refine cx_F_ua rfl ?_) | ((with_reducible (change cx_I (_, sx_cpy _ _ _ _ _ _, _))); refine cx_I_cpy rfl rfl rfl (by decide) ?_) | ((with_reducible (change cx_F _ _ (_, sx_cpy _ _ _ _ _ _, _))); refine cx_F_cpy rfl ?_) | ((with_reducible (change cx_F _ _ _)); refine cx_F_step (by assumption) rfl ?_) | fail)
  all_goals (first | trivial | omega | (exact cx_AG_beg (cx_FI_in (by omega) (by omega) (by omega))) | (exact cx_AG_beg (cx_FI_out (by omega))) | (subst i3; exact cx_AG_end (by omega) i5) | (exact cx_AG_end (by omega) i5) | (exact cx_AG_step (by omega) (by omega) (by simp only [sx_w_t]; omega) (by omega) i5) | (simp only [sx_w_t]; omega))

theorem c_argumentF {sL : Nat} {sx : Nat → Int32} (hsL : sL ≤ 3072) (d : Nat) (hd : 2 ≤ d) : ∀ (a0 a1 : Int) (s : sx_S) (K : Int → sx_S → Prop), cx_I s → (-2147483648 ≤ a0 ∧ a0 ≤ 2147483647) → (-2147483648 ≤ a1 ∧ a1 ≤ 2147483647) → (∀ z : Int, (-1 ≤ z ∧ z ≤ 1023) → (z = cx_AG s a1.toNat (cx_FI s a0)) → K z s) → sx_C sL sx d 95 [.inr (.inl 11), .inl a0, .inl a1] s K := by
  intro a0 a1 s K hI p0 p1 hK
  obtain ⟨d, rfl⟩ : ∃ e, d = e + 2 := ⟨d - 2, by omega⟩
  refine sx_methL (wr := true) (n := 400) (n' := 400) (stop := [(26, [0, 2, 3, 4])]) (fun n pc ls u => (pc = 26 ∧ ∃ (x2 x3 x4 : Int), ls = [(0, .inr (.inl 11)), (2, .inl x2), (3, .inl x3), (4, .inl x4)] ∧ u = s ∧ (-2147483648 ≤ x2 ∧ x2 ≤ 2147483647) ∧ (-1 ≤ x3 ∧ x3 ≤ 1023) ∧ (0 ≤ x4 ∧ x4 ≤ 2147483647) ∧ (x2 = a1) ∧ (0 ≤ x4) ∧ (cx_AG s (x2 - x4).toNat x3 = cx_AG s a1.toNat (cx_FI s a0)) ∧ n = 17179869184 + (2147483647 - x4).toNat)) hsL (e := eX7_argument) rfl ?_ ?_
  · exact w_argumentF  hI p0 p1 hK (fun x2 x3 x4 _ i0 i1 i2 i3 i4 i5 => ⟨_, ⟨rfl, x2, x3, x4, rfl, rfl, i0, i1, i2, i3, i4, i5, rfl⟩⟩)
  · rintro n pc ls u (⟨rfl, x2, x3, x4, rfl, rfl, i0, i1, i2, i3, i4, i5, rfl⟩)
    · exact w_argumentF_26  hI p0 p1 hK rfl i0 i1 i2 i3 i4 i5 (fun x2 x3 x4 _ i0 i1 i2 i3 i4 i5 hm => ⟨_, hm, ⟨rfl, x2, x3, x4, rfl, rfl, i0, i1, i2, i3, i4, i5, rfl⟩⟩)

theorem w_lofF {CALL : sx_Ca} {sL : Nat} {sx : Nat → Int32} {Q : Nat → sx_L → sx_S → Prop} {R : Int → sx_S → Prop} {s : sx_S} {a0 a1 : Int} (hI : cx_I s) (p0 : (-2147483648 ≤ a0 ∧ a0 ≤ 2147483647)) (p1 : (-2147483648 ≤ a1 ∧ a1 ≤ 2147483647)) (hK : ∀ z : Int, (-2147483648 ≤ z ∧ z ≤ 2147483647) → (z = cx_OF s a1 1024 a0) → R z s) (hQ5 : ∀ (x2 x3 x4 : Int) (_ : True), (-2147483648 ≤ x2 ∧ x2 ≤ 2147483647) → (-2147483648 ≤ x3 ∧ x3 ≤ 2147483647) → (0 ≤ x4 ∧ x4 ≤ 1024) → (x2 = a1) → (cx_OF s x2 (1024 - x4).toNat x3 = cx_OF s a1 1024 a0) → Q 5 [(0, .inr (.inl 29)), (2, .inl x2), (3, .inl x3), (4, .inl x4)] s) : sx_wp true sL sx eX3_of CALL [(5, [0, 2, 3, 4])] Q R 400 0 (sx_argsF 0 [.inr (.inl 29), .inl a0, .inl a1]) [] s := by
  repeat' (first | (with_reducible intro _) | (refine And.intro ?_ ?_) | (refine hK _ ?_ ?_) | (refine hQ5 _ _ _ trivial ?_ ?_ ?_ ?_ ?_))
  all_goals (try dsimp only)
  repeat' (first | (with_reducible assumption) | ((with_reducible (change cx_I (sx_uf _ _ _ _, _))); refine cx_I_uf rfl rfl ?_ ?_ ?_) | ((with_reducible (change cx_I (_, sx_ua _ _ _ _, _))); refine cx_I_ua rfl rfl ?_ ?_ ?_) | ((with_reducible (change cx_I (_, sx_ua _ 16 _ _, _))); refine cx_I_ari ?_ ?_ ?_) | ((with_reducible (change cx_I (sx_uf _ 11 6 _, _))); refine cx_I_ufA rfl ?_ ?_ ?_ ?_) | (with_reducible exact cx_F_refl _ _) | ((with_reducible (change cx_F _ _ (sx_uf _ _ _ _, _))); refine cx_F_uf rfl ?_) | ((with_reducible (change cx_F _ _ (_, sx_ua _ _ _ _, _))); refine cx_F_ua rfl ?_) | ((with_reducible (change cx_I (_, sx_cpy _ _ _ _ _ _, _))); refine cx_I_cpy rfl rfl rfl (by decide) ?_) | ((with_reducible (change cx_F _ _ (_, sx_cpy _ _ _ _ _ _, _))); refine cx_F_cpy rfl ?_) | ((with_reducible (change cx_F _ _ _)); refine cx_F_step (by assumption) rfl ?_) | fail)
  all_goals (first | trivial | omega | (exact cx_OF_hit (by omega) (by omega) (by omega) (by assumption) (by omega) (by assumption) i4) | (exact cx_OF_end (by omega) i4) | (exact cx_OF_go (by omega) (by omega) (by omega) (by assumption) (by omega) (by simp only [sx_w_t]; omega) (by assumption) i4) | (simp only [sx_w_t]; omega) | rfl)

theorem w_lofF_5 {CALL : sx_Ca} {sL : Nat} {sx : Nat → Int32} {Q : Nat → sx_L → sx_S → Prop} {R : Int → sx_S → Prop} {s : sx_S} {a0 a1 : Int} (hI : cx_I s) (p0 : (-2147483648 ≤ a0 ∧ a0 ≤ 2147483647)) (p1 : (-2147483648 ≤ a1 ∧ a1 ≤ 2147483647)) (hK : ∀ z : Int, (-2147483648 ≤ z ∧ z ≤ 2147483647) → (z = cx_OF s a1 1024 a0) → R z s) {x2 x3 x4 : Int} {mm : Nat} (hm : mm = 17179869184 + (2147483647 - x4).toNat) (i0 : (-2147483648 ≤ x2 ∧ x2 ≤ 2147483647)) (i1 : (-2147483648 ≤ x3 ∧ x3 ≤ 2147483647)) (i2 : (0 ≤ x4 ∧ x4 ≤ 1024)) (i3 : (x2 = a1)) (i4 : (cx_OF s x2 (1024 - x4).toNat x3 = cx_OF s a1 1024 a0)) (hQ5 : ∀ (x2 x3 x4 : Int) (_ : True), (-2147483648 ≤ x2 ∧ x2 ≤ 2147483647) → (-2147483648 ≤ x3 ∧ x3 ≤ 2147483647) → (0 ≤ x4 ∧ x4 ≤ 1024) → (x2 = a1) → (cx_OF s x2 (1024 - x4).toNat x3 = cx_OF s a1 1024 a0) → (17179869184 + (2147483647 - x4).toNat < mm) → Q 5 [(0, .inr (.inl 29)), (2, .inl x2), (3, .inl x3), (4, .inl x4)] s) : sx_wp true sL sx eX3_of CALL [(5, [0, 2, 3, 4])] Q R 400 5 [(0, .inr (.inl 29)), (2, .inl x2), (3, .inl x3), (4, .inl x4)] [] s := by
  repeat' (first | (with_reducible intro _) | (refine And.intro ?_ ?_) | (refine hK _ ?_ ?_) | (refine hQ5 _ _ _ trivial ?_ ?_ ?_ ?_ ?_ ?_))
  all_goals (try dsimp only)
  repeat' (first | (with_reducible assumption) | ((with_reducible (change cx_I (sx_uf _ _ _ _, _))); refine cx_I_uf rfl rfl ?_ ?_ ?_) | ((with_reducible (change cx_I (_, sx_ua _ _ _ _, _))); refine cx_I_ua rfl rfl ?_ ?_ ?_) | ((with_reducible (change cx_I (_, sx_ua _ 16 _ _, _))); refine cx_I_ari ?_ ?_ ?_) | ((with_reducible (change cx_I (sx_uf _ 11 6 _, _))); refine cx_I_ufA rfl ?_ ?_ ?_ ?_) | (with_reducible exact cx_F_refl _ _) | ((with_reducible (change cx_F _ _ (sx_uf _ _ _ _, _))); refine cx_F_uf rfl ?_) | ((with_reducible (change cx_F _ _ (_, sx_ua _ _ _ _, _))); refine cx_F_ua rfl ?_) | ((with_reducible (change cx_I (_, sx_cpy _ _ _ _ _ _, _))); refine cx_I_cpy rfl rfl rfl (by decide) ?_) | ((with_reducible (change cx_F _ _ (_, sx_cpy _ _ _ _ _ _, _))); refine cx_F_cpy rfl ?_) | ((with_reducible (change cx_F _ _ _)); refine cx_F_step (by assumption) rfl ?_) | fail)
  all_goals (first | trivial | omega | (exact cx_OF_hit (by omega) (by omega) (by omega) (by assumption) (by omega) (by assumption) i4) | (exact cx_OF_end (by omega) i4) | (exact cx_OF_go (by omega) (by omega) (by omega) (by assumption) (by omega) (by simp only [sx_w_t]; omega) (by assumption) i4) | (simp only [sx_w_t]; omega) | rfl)

theorem c_lofF {sL : Nat} {sx : Nat → Int32} (hsL : sL ≤ 3072) (d : Nat) (hd : 2 ≤ d) : ∀ (a0 a1 : Int) (s : sx_S) (K : Int → sx_S → Prop), cx_I s → (-2147483648 ≤ a0 ∧ a0 ≤ 2147483647) → (-2147483648 ≤ a1 ∧ a1 ≤ 2147483647) → (∀ z : Int, (-2147483648 ≤ z ∧ z ≤ 2147483647) → (z = cx_OF s a1 1024 a0) → K z s) → sx_C sL sx d 47 [.inr (.inl 29), .inl a0, .inl a1] s K := by
  intro a0 a1 s K hI p0 p1 hK
  obtain ⟨d, rfl⟩ : ∃ e, d = e + 2 := ⟨d - 2, by omega⟩
  refine sx_methL (wr := true) (n := 400) (n' := 400) (stop := [(5, [0, 2, 3, 4])]) (fun n pc ls u => (pc = 5 ∧ ∃ (x2 x3 x4 : Int), ls = [(0, .inr (.inl 29)), (2, .inl x2), (3, .inl x3), (4, .inl x4)] ∧ u = s ∧ (-2147483648 ≤ x2 ∧ x2 ≤ 2147483647) ∧ (-2147483648 ≤ x3 ∧ x3 ≤ 2147483647) ∧ (0 ≤ x4 ∧ x4 ≤ 1024) ∧ (x2 = a1) ∧ (cx_OF s x2 (1024 - x4).toNat x3 = cx_OF s a1 1024 a0) ∧ n = 17179869184 + (2147483647 - x4).toNat)) hsL (e := eX3_of) rfl ?_ ?_
  · exact w_lofF  hI p0 p1 hK (fun x2 x3 x4 _ i0 i1 i2 i3 i4 => ⟨_, ⟨rfl, x2, x3, x4, rfl, rfl, i0, i1, i2, i3, i4, rfl⟩⟩)
  · rintro n pc ls u (⟨rfl, x2, x3, x4, rfl, rfl, i0, i1, i2, i3, i4, rfl⟩)
    · exact w_lofF_5  hI p0 p1 hK rfl i0 i1 i2 i3 i4 (fun x2 x3 x4 _ i0 i1 i2 i3 i4 hm => ⟨_, hm, ⟨rfl, x2, x3, x4, rfl, rfl, i0, i1, i2, i3, i4, rfl⟩⟩)
