/-! ===== the text, exactly: letters of words; the reference's bytes and words ===== -/
theorem px_a_ua {A : Nat → Nat → Int} {p q k : Nat} {v : Int} {b : Nat → Int} (h : Nat.beq q p = false) (e : A q = b) : sx_ua A p k v q = b := by
  rw [sx_ua_ne (fun z => by rw [z] at h; simp at h)]
  exact e
theorem px_f_uf {F : Nat → Nat → Int} {p k q j : Nat} {v n : Int} (h : (Nat.beq q p && Nat.beq j k) = false) (e : F q j = n) : sx_uf F p k v q j = n := by
  rw [sx_uf_if, if_neg]
  · exact e
  · rintro ⟨rfl, rfl⟩
    simp at h
theorem px_a_F {V : List (Nat × Nat)} {s t : sx_S} {q : Nat} {b : Nat → Int} (hF : cx_F V s t) (hV : cx_outb V q = true) (e : s.2.1 q = b) : t.2.1 q = b := by
  rw [(hF.same q hV).2]
  exact e
theorem px_f_F {V : List (Nat × Nat)} {s t : sx_S} {q k : Nat} {n : Int} (hF : cx_F V s t) (hV : cx_outb V q = true) (e : s.1 q k = n) : t.1 q k = n := by
  rw [(hF.same q hV).1]
  exact e
theorem px_wid {z : Int} (h0 : -2147483648 ≤ z) (h1 : z ≤ 2147483647) : sx_w true z = z := by
  rw [sx_w_t]
  omega
theorem px_wd_go {b : Nat → Int} {n k m : Int} (h : px_ru px_wdb b n k = m) (hk : k < n) (hc : px_wd (b k.toNat)) : px_ru px_wdb b n (k + 1) = m := by
  rw [← px_ru_go hk (decide_eq_true hc)]
  exact h
theorem px_wd_st {b : Nat → Int} {n k m : Int} (h : px_ru px_wdb b n k = m) (hc : ¬ (k < n ∧ px_wd (b k.toNat))) : m = k := by
  rw [← h]
  exact px_ru_st (fun q => hc ⟨q.1, of_decide_eq_true q.2⟩)
theorem px_bl_go {b : Nat → Int} {n k m : Int} (h : px_ru px_blb b n k = m) (hk : k < n) (hc : px_bl (b k.toNat)) : px_ru px_blb b n (k + 1) = m := by
  rw [← px_ru_go hk (decide_eq_true hc)]
  exact h
theorem px_bl_st {b : Nat → Int} {n k m : Int} (h : px_ru px_blb b n k = m) (hc : ¬ (k < n ∧ px_bl (b k.toNat))) : m = k := by
  rw [← h]
  exact px_ru_st (fun q => hc ⟨q.1, of_decide_eq_true q.2⟩)

theorem w_xbchar1 {CALL : sx_Ca} {sL : Nat} {sx : Nat → Int32} {Q : Nat → sx_L → sx_S → Prop} {R : Int → sx_S → Prop} {s : sx_S} {i0 : Int} (hI : cx_I s) (p0 : (0 ≤ i0 ∧ i0 ≤ 2)) (hK : ∀ z : Int, (i0 = 0 → z = 99) → (i0 = 1 → z = 111) → (i0 = 2 → z = 110) → R z s) : sx_wp true sL sx eJ1_charAt_3b067 CALL [] Q R 400 0 (sx_argsF 0 [.inr (.inl 1000004), .inl i0]) [] s := by
  rcases (by omega : i0 = 0 ∨ i0 = 1 ∨ i0 = 2) with rfl | rfl | rfl
  repeat' (first | (with_reducible intro _) | (refine And.intro ?_ ?_) | (refine hK _ ?_ ?_ ?_))
  all_goals (try dsimp only)
  repeat' (first | (with_reducible assumption) | ((with_reducible (change cx_I (sx_uf _ _ _ _, _))); refine cx_I_uf rfl rfl ?_ ?_ ?_) | ((with_reducible (change cx_I (_, sx_ua _ _ _ _, _))); refine cx_I_ua rfl rfl ?_ ?_ ?_) | ((with_reducible (change cx_I (_, sx_ua _ 16 _ _, _))); refine cx_I_ari ?_ ?_ ?_) | ((with_reducible (change cx_I (sx_uf _ 11 6 _, _))); refine cx_I_ufA rfl ?_ ?_ ?_ ?_) | (with_reducible exact cx_F_refl _ _) | ((with_reducible (change cx_F _ _ (sx_uf _ _ _ _, _))); refine cx_F_uf rfl ?_) | ((with_reducible (change cx_F _ _ (_, sx_ua _ _ _ _, _))); refine cx_F_ua rfl ?_) | ((with_reducible (change cx_I (_, sx_cpy _ _ _ _ _ _, _))); refine cx_I_cpy rfl rfl rfl (by decide) ?_) | ((with_reducible (change cx_F _ _ (_, sx_cpy _ _ _ _ _ _, _))); refine cx_F_cpy rfl ?_) | ((with_reducible (change cx_F _ _ _)); refine cx_F_step (by assumption) rfl ?_) | fail)
  all_goals (first | trivial | omega | assumption | rfl | (dsimp only at *; omega) | (simp only [sx_uf_if, sx_ua_if, sx_w_t, true_and, and_true, and_self, and_false, false_and, if_true, if_false, reduceIte] at *; omega) | (subst_vars; rfl) | (subst_vars; omega) | (subst_vars; decide +kernel))

theorem c_xbchar1 {sL : Nat} {sx : Nat → Int32} (hsL : sL ≤ 3072) (d : Nat) (hd : 2 ≤ d) : ∀ (i0 : Int) (s : sx_S) (K : Int → sx_S → Prop), cx_I s → (0 ≤ i0 ∧ i0 ≤ 2) → (∀ z : Int, (i0 = 0 → z = 99) → (i0 = 1 → z = 111) → (i0 = 2 → z = 110) → K z s) → sx_C sL sx d 226 [.inr (.inl 1000004), .inl i0] s K := by
  intro i0 s K hI p0 hK
  obtain ⟨d, rfl⟩ : ∃ e, d = e + 2 := ⟨d - 2, by omega⟩
  exact sx_meth (wr := true) (n := 400) hsL (e := eJ1_charAt_3b067) rfl (w_xbchar1 (Q := fun _ _ _ => False)  hI p0 hK)

theorem w_xschar1 {CALL : sx_Ca} {sL : Nat} {sx : Nat → Int32} {Q : Nat → sx_L → sx_S → Prop} {R : Int → sx_S → Prop} (h_isLatin1 : ∀ (s : sx_S) (K : Int → sx_S → Prop), cx_I s → (∀ z : Int, (z = 1) → K z s) → CALL 225 [.inr (.inl 1000003)] s K) (h_xbchar1 : ∀ (i0 : Int) (s : sx_S) (K : Int → sx_S → Prop), cx_I s → (0 ≤ i0 ∧ i0 ≤ 2) → (∀ z : Int, (i0 = 0 → z = 99) → (i0 = 1 → z = 111) → (i0 = 2 → z = 110) → K z s) → CALL 226 [.inr (.inl 1000004), .inl i0] s K) {s : sx_S} {i0 : Int} (hI : cx_I s) (p0 : (0 ≤ i0 ∧ i0 ≤ 2)) (hK : ∀ z : Int, (i0 = 0 → z = 99) → (i0 = 1 → z = 111) → (i0 = 2 → z = 110) → R z s) : sx_wp true sL sx eJ0_charAt_5068e CALL [] Q R 400 0 (sx_argsF 0 [.inr (.inl 1000003), .inl i0]) [] s := by
  repeat' (first | (with_reducible intro _) | (refine And.intro ?_ ?_) | (refine hK _ ?_ ?_ ?_) | (refine h_isLatin1 _ _ ?_  ?_) | (refine h_xbchar1 _ _ _ ?_ ?_ ?_))
  all_goals (try dsimp only)
  repeat' (first | (with_reducible assumption) | ((with_reducible (change cx_I (sx_uf _ _ _ _, _))); refine cx_I_uf rfl rfl ?_ ?_ ?_) | ((with_reducible (change cx_I (_, sx_ua _ _ _ _, _))); refine cx_I_ua rfl rfl ?_ ?_ ?_) | ((with_reducible (change cx_I (_, sx_ua _ 16 _ _, _))); refine cx_I_ari ?_ ?_ ?_) | ((with_reducible (change cx_I (sx_uf _ 11 6 _, _))); refine cx_I_ufA rfl ?_ ?_ ?_ ?_) | (with_reducible exact cx_F_refl _ _) | ((with_reducible (change cx_F _ _ (sx_uf _ _ _ _, _))); refine cx_F_uf rfl ?_) | ((with_reducible (change cx_F _ _ (_, sx_ua _ _ _ _, _))); refine cx_F_ua rfl ?_) | ((with_reducible (change cx_I (_, sx_cpy _ _ _ _ _ _, _))); refine cx_I_cpy rfl rfl rfl (by decide) ?_) | ((with_reducible (change cx_F _ _ (_, sx_cpy _ _ _ _ _ _, _))); refine cx_F_cpy rfl ?_) | ((with_reducible (change cx_F _ _ _)); refine cx_F_step (by assumption) rfl ?_) | fail)
  all_goals (first | trivial | omega | assumption | rfl | (dsimp only at *; omega) | (simp only [sx_uf_if, sx_ua_if, sx_w_t, true_and, and_true, and_self, and_false, false_and, if_true, if_false, reduceIte] at *; omega) | (subst_vars; rfl) | (subst_vars; omega) | (subst_vars; decide +kernel))

theorem c_xschar1 {sL : Nat} {sx : Nat → Int32} (hsL : sL ≤ 3072) (d : Nat) (hd : 3 ≤ d) : ∀ (i0 : Int) (s : sx_S) (K : Int → sx_S → Prop), cx_I s → (0 ≤ i0 ∧ i0 ≤ 2) → (∀ z : Int, (i0 = 0 → z = 99) → (i0 = 1 → z = 111) → (i0 = 2 → z = 110) → K z s) → sx_C sL sx d 221 [.inr (.inl 1000003), .inl i0] s K := by
  intro i0 s K hI p0 hK
  obtain ⟨d, rfl⟩ : ∃ e, d = e + 2 := ⟨d - 2, by omega⟩
  exact sx_meth (wr := true) (n := 400) hsL (e := eJ0_charAt_5068e) rfl (w_xschar1 (Q := fun _ _ _ => False) (c_isLatin1 hsL (d + 1) (by omega)) (c_xbchar1 hsL (d + 1) (by omega)) hI p0 hK)

theorem w_xbchar2 {CALL : sx_Ca} {sL : Nat} {sx : Nat → Int32} {Q : Nat → sx_L → sx_S → Prop} {R : Int → sx_S → Prop} {s : sx_S} {i0 : Int} (hI : cx_I s) (p0 : (0 ≤ i0 ∧ i0 ≤ 2)) (hK : ∀ z : Int, (i0 = 0 → z = 109) → (i0 = 1 → z = 101) → (i0 = 2 → z = 116) → R z s) : sx_wp true sL sx eJ1_charAt_3b067 CALL [] Q R 400 0 (sx_argsF 0 [.inr (.inl 1000006), .inl i0]) [] s := by
  rcases (by omega : i0 = 0 ∨ i0 = 1 ∨ i0 = 2) with rfl | rfl | rfl
  repeat' (first | (with_reducible intro _) | (refine And.intro ?_ ?_) | (refine hK _ ?_ ?_ ?_))
  all_goals (try dsimp only)
  repeat' (first | (with_reducible assumption) | ((with_reducible (change cx_I (sx_uf _ _ _ _, _))); refine cx_I_uf rfl rfl ?_ ?_ ?_) | ((with_reducible (change cx_I (_, sx_ua _ _ _ _, _))); refine cx_I_ua rfl rfl ?_ ?_ ?_) | ((with_reducible (change cx_I (_, sx_ua _ 16 _ _, _))); refine cx_I_ari ?_ ?_ ?_) | ((with_reducible (change cx_I (sx_uf _ 11 6 _, _))); refine cx_I_ufA rfl ?_ ?_ ?_ ?_) | (with_reducible exact cx_F_refl _ _) | ((with_reducible (change cx_F _ _ (sx_uf _ _ _ _, _))); refine cx_F_uf rfl ?_) | ((with_reducible (change cx_F _ _ (_, sx_ua _ _ _ _, _))); refine cx_F_ua rfl ?_) | ((with_reducible (change cx_I (_, sx_cpy _ _ _ _ _ _, _))); refine cx_I_cpy rfl rfl rfl (by decide) ?_) | ((with_reducible (change cx_F _ _ (_, sx_cpy _ _ _ _ _ _, _))); refine cx_F_cpy rfl ?_) | ((with_reducible (change cx_F _ _ _)); refine cx_F_step (by assumption) rfl ?_) | fail)
  all_goals (first | trivial | omega | assumption | rfl | (dsimp only at *; omega) | (simp only [sx_uf_if, sx_ua_if, sx_w_t, true_and, and_true, and_self, and_false, false_and, if_true, if_false, reduceIte] at *; omega) | (subst_vars; rfl) | (subst_vars; omega) | (subst_vars; decide +kernel))

theorem c_xbchar2 {sL : Nat} {sx : Nat → Int32} (hsL : sL ≤ 3072) (d : Nat) (hd : 2 ≤ d) : ∀ (i0 : Int) (s : sx_S) (K : Int → sx_S → Prop), cx_I s → (0 ≤ i0 ∧ i0 ≤ 2) → (∀ z : Int, (i0 = 0 → z = 109) → (i0 = 1 → z = 101) → (i0 = 2 → z = 116) → K z s) → sx_C sL sx d 226 [.inr (.inl 1000006), .inl i0] s K := by
  intro i0 s K hI p0 hK
  obtain ⟨d, rfl⟩ : ∃ e, d = e + 2 := ⟨d - 2, by omega⟩
  exact sx_meth (wr := true) (n := 400) hsL (e := eJ1_charAt_3b067) rfl (w_xbchar2 (Q := fun _ _ _ => False)  hI p0 hK)

theorem w_xschar2 {CALL : sx_Ca} {sL : Nat} {sx : Nat → Int32} {Q : Nat → sx_L → sx_S → Prop} {R : Int → sx_S → Prop} (h_isLatin2 : ∀ (s : sx_S) (K : Int → sx_S → Prop), cx_I s → (∀ z : Int, (z = 1) → K z s) → CALL 225 [.inr (.inl 1000005)] s K) (h_xbchar2 : ∀ (i0 : Int) (s : sx_S) (K : Int → sx_S → Prop), cx_I s → (0 ≤ i0 ∧ i0 ≤ 2) → (∀ z : Int, (i0 = 0 → z = 109) → (i0 = 1 → z = 101) → (i0 = 2 → z = 116) → K z s) → CALL 226 [.inr (.inl 1000006), .inl i0] s K) {s : sx_S} {i0 : Int} (hI : cx_I s) (p0 : (0 ≤ i0 ∧ i0 ≤ 2)) (hK : ∀ z : Int, (i0 = 0 → z = 109) → (i0 = 1 → z = 101) → (i0 = 2 → z = 116) → R z s) : sx_wp true sL sx eJ0_charAt_5068e CALL [] Q R 400 0 (sx_argsF 0 [.inr (.inl 1000005), .inl i0]) [] s := by
  repeat' (first | (with_reducible intro _) | (refine And.intro ?_ ?_) | (refine hK _ ?_ ?_ ?_) | (refine h_isLatin2 _ _ ?_  ?_) | (refine h_xbchar2 _ _ _ ?_ ?_ ?_))
  all_goals (try dsimp only)
  repeat' (first | (with_reducible assumption) | ((with_reducible (change cx_I (sx_uf _ _ _ _, _))); refine cx_I_uf rfl rfl ?_ ?_ ?_) | ((with_reducible (change cx_I (_, sx_ua _ _ _ _, _))); refine cx_I_ua rfl rfl ?_ ?_ ?_) | ((with_reducible (change cx_I (_, sx_ua _ 16 _ _, _))); refine cx_I_ari ?_ ?_ ?_) | ((with_reducible (change cx_I (sx_uf _ 11 6 _, _))); refine cx_I_ufA rfl ?_ ?_ ?_ ?_) | (with_reducible exact cx_F_refl _ _) | ((with_reducible (change cx_F _ _ (sx_uf _ _ _ _, _))); refine cx_F_uf rfl ?_) | ((with_reducible (change cx_F _ _ (_, sx_ua _ _ _ _, _))); refine cx_F_ua rfl ?_) | ((with_reducible (change cx_I (_, sx_cpy _ _ _ _ _ _, _))); refine cx_I_cpy rfl rfl rfl (by decide) ?_) | ((with_reducible (change cx_F _ _ (_, sx_cpy _ _ _ _ _ _, _))); refine cx_F_cpy rfl ?_) | ((with_reducible (change cx_F _ _ _)); refine cx_F_step (by assumption) rfl ?_) | fail)
  all_goals (first | trivial | omega | assumption | rfl | (dsimp only at *; omega) | (simp only [sx_uf_if, sx_ua_if, sx_w_t, true_and, and_true, and_self, and_false, false_and, if_true, if_false, reduceIte] at *; omega) | (subst_vars; rfl) | (subst_vars; omega) | (subst_vars; decide +kernel))

theorem c_xschar2 {sL : Nat} {sx : Nat → Int32} (hsL : sL ≤ 3072) (d : Nat) (hd : 3 ≤ d) : ∀ (i0 : Int) (s : sx_S) (K : Int → sx_S → Prop), cx_I s → (0 ≤ i0 ∧ i0 ≤ 2) → (∀ z : Int, (i0 = 0 → z = 109) → (i0 = 1 → z = 101) → (i0 = 2 → z = 116) → K z s) → sx_C sL sx d 221 [.inr (.inl 1000005), .inl i0] s K := by
  intro i0 s K hI p0 hK
  obtain ⟨d, rfl⟩ : ∃ e, d = e + 2 := ⟨d - 2, by omega⟩
  exact sx_meth (wr := true) (n := 400) hsL (e := eJ0_charAt_5068e) rfl (w_xschar2 (Q := fun _ _ _ => False) (c_isLatin2 hsL (d + 1) (by omega)) (c_xbchar2 hsL (d + 1) (by omega)) hI p0 hK)

theorem w_xbchar3 {CALL : sx_Ca} {sL : Nat} {sx : Nat → Int32} {Q : Nat → sx_L → sx_S → Prop} {R : Int → sx_S → Prop} {s : sx_S} {i0 : Int} (hI : cx_I s) (p0 : (0 ≤ i0 ∧ i0 ≤ 1)) (hK : ∀ z : Int, (i0 = 0 → z = 101) → (i0 = 1 → z = 113) → R z s) : sx_wp true sL sx eJ1_charAt_3b067 CALL [] Q R 400 0 (sx_argsF 0 [.inr (.inl 1000008), .inl i0]) [] s := by
  rcases (by omega : i0 = 0 ∨ i0 = 1) with rfl | rfl
  repeat' (first | (with_reducible intro _) | (refine And.intro ?_ ?_) | (refine hK _ ?_ ?_))
  all_goals (try dsimp only)
  repeat' (first | (with_reducible assumption) | ((with_reducible (change cx_I (sx_uf _ _ _ _, _))); refine cx_I_uf rfl rfl ?_ ?_ ?_) | ((with_reducible (change cx_I (_, sx_ua _ _ _ _, _))); refine cx_I_ua rfl rfl ?_ ?_ ?_) | ((with_reducible (change cx_I (_, sx_ua _ 16 _ _, _))); refine cx_I_ari ?_ ?_ ?_) | ((with_reducible (change cx_I (sx_uf _ 11 6 _, _))); refine cx_I_ufA rfl ?_ ?_ ?_ ?_) | (with_reducible exact cx_F_refl _ _) | ((with_reducible (change cx_F _ _ (sx_uf _ _ _ _, _))); refine cx_F_uf rfl ?_) | ((with_reducible (change cx_F _ _ (_, sx_ua _ _ _ _, _))); refine cx_F_ua rfl ?_) | ((with_reducible (change cx_I (_, sx_cpy _ _ _ _ _ _, _))); refine cx_I_cpy rfl rfl rfl (by decide) ?_) | ((with_reducible (change cx_F _ _ (_, sx_cpy _ _ _ _ _ _, _))); refine cx_F_cpy rfl ?_) | ((with_reducible (change cx_F _ _ _)); refine cx_F_step (by assumption) rfl ?_) | fail)
  all_goals (first | trivial | omega | assumption | rfl | (dsimp only at *; omega) | (simp only [sx_uf_if, sx_ua_if, sx_w_t, true_and, and_true, and_self, and_false, false_and, if_true, if_false, reduceIte] at *; omega) | (subst_vars; rfl) | (subst_vars; omega) | (subst_vars; decide +kernel))

theorem c_xbchar3 {sL : Nat} {sx : Nat → Int32} (hsL : sL ≤ 3072) (d : Nat) (hd : 2 ≤ d) : ∀ (i0 : Int) (s : sx_S) (K : Int → sx_S → Prop), cx_I s → (0 ≤ i0 ∧ i0 ≤ 1) → (∀ z : Int, (i0 = 0 → z = 101) → (i0 = 1 → z = 113) → K z s) → sx_C sL sx d 226 [.inr (.inl 1000008), .inl i0] s K := by
  intro i0 s K hI p0 hK
  obtain ⟨d, rfl⟩ : ∃ e, d = e + 2 := ⟨d - 2, by omega⟩
  exact sx_meth (wr := true) (n := 400) hsL (e := eJ1_charAt_3b067) rfl (w_xbchar3 (Q := fun _ _ _ => False)  hI p0 hK)

theorem w_xschar3 {CALL : sx_Ca} {sL : Nat} {sx : Nat → Int32} {Q : Nat → sx_L → sx_S → Prop} {R : Int → sx_S → Prop} (h_isLatin3 : ∀ (s : sx_S) (K : Int → sx_S → Prop), cx_I s → (∀ z : Int, (z = 1) → K z s) → CALL 225 [.inr (.inl 1000007)] s K) (h_xbchar3 : ∀ (i0 : Int) (s : sx_S) (K : Int → sx_S → Prop), cx_I s → (0 ≤ i0 ∧ i0 ≤ 1) → (∀ z : Int, (i0 = 0 → z = 101) → (i0 = 1 → z = 113) → K z s) → CALL 226 [.inr (.inl 1000008), .inl i0] s K) {s : sx_S} {i0 : Int} (hI : cx_I s) (p0 : (0 ≤ i0 ∧ i0 ≤ 1)) (hK : ∀ z : Int, (i0 = 0 → z = 101) → (i0 = 1 → z = 113) → R z s) : sx_wp true sL sx eJ0_charAt_5068e CALL [] Q R 400 0 (sx_argsF 0 [.inr (.inl 1000007), .inl i0]) [] s := by
  repeat' (first | (with_reducible intro _) | (refine And.intro ?_ ?_) | (refine hK _ ?_ ?_) | (refine h_isLatin3 _ _ ?_  ?_) | (refine h_xbchar3 _ _ _ ?_ ?_ ?_))
  all_goals (try dsimp only)
  repeat' (first | (with_reducible assumption) | ((with_reducible (change cx_I (sx_uf _ _ _ _, _))); refine cx_I_uf rfl rfl ?_ ?_ ?_) | ((with_reducible (change cx_I (_, sx_ua _ _ _ _, _))); refine cx_I_ua rfl rfl ?_ ?_ ?_) | ((with_reducible (change cx_I (_, sx_ua _ 16 _ _, _))); refine cx_I_ari ?_ ?_ ?_) | ((with_reducible (change cx_I (sx_uf _ 11 6 _, _))); refine cx_I_ufA rfl ?_ ?_ ?_ ?_) | (with_reducible exact cx_F_refl _ _) | ((with_reducible (change cx_F _ _ (sx_uf _ _ _ _, _))); refine cx_F_uf rfl ?_) | ((with_reducible (change cx_F _ _ (_, sx_ua _ _ _ _, _))); refine cx_F_ua rfl ?_) | ((with_reducible (change cx_I (_, sx_cpy _ _ _ _ _ _, _))); refine cx_I_cpy rfl rfl rfl (by decide) ?_) | ((with_reducible (change cx_F _ _ (_, sx_cpy _ _ _ _ _ _, _))); refine cx_F_cpy rfl ?_) | ((with_reducible (change cx_F _ _ _)); refine cx_F_step (by assumption) rfl ?_) | fail)
  all_goals (first | trivial | omega | assumption | rfl | (dsimp only at *; omega) | (simp only [sx_uf_if, sx_ua_if, sx_w_t, true_and, and_true, and_self, and_false, false_and, if_true, if_false, reduceIte] at *; omega) | (subst_vars; rfl) | (subst_vars; omega) | (subst_vars; decide +kernel))

theorem c_xschar3 {sL : Nat} {sx : Nat → Int32} (hsL : sL ≤ 3072) (d : Nat) (hd : 3 ≤ d) : ∀ (i0 : Int) (s : sx_S) (K : Int → sx_S → Prop), cx_I s → (0 ≤ i0 ∧ i0 ≤ 1) → (∀ z : Int, (i0 = 0 → z = 101) → (i0 = 1 → z = 113) → K z s) → sx_C sL sx d 221 [.inr (.inl 1000007), .inl i0] s K := by
  intro i0 s K hI p0 hK
  obtain ⟨d, rfl⟩ : ∃ e, d = e + 2 := ⟨d - 2, by omega⟩
  exact sx_meth (wr := true) (n := 400) hsL (e := eJ0_charAt_5068e) rfl (w_xschar3 (Q := fun _ _ _ => False) (c_isLatin3 hsL (d + 1) (by omega)) (c_xbchar3 hsL (d + 1) (by omega)) hI p0 hK)

theorem w_xbchar4 {CALL : sx_Ca} {sL : Nat} {sx : Nat → Int32} {Q : Nat → sx_L → sx_S → Prop} {R : Int → sx_S → Prop} {s : sx_S} {i0 : Int} (hI : cx_I s) (p0 : (0 ≤ i0 ∧ i0 ≤ 0)) (hK : ∀ z : Int, (i0 = 0 → z = 111) → R z s) : sx_wp true sL sx eJ1_charAt_3b067 CALL [] Q R 400 0 (sx_argsF 0 [.inr (.inl 1000010), .inl i0]) [] s := by
  rcases (by omega : i0 = 0) with rfl
  repeat' (first | (with_reducible intro _) | (refine And.intro ?_ ?_) | (refine hK _ ?_))
  all_goals (try dsimp only)
  repeat' (first | (with_reducible assumption) | ((with_reducible (change cx_I (sx_uf _ _ _ _, _))); refine cx_I_uf rfl rfl ?_ ?_ ?_) | ((with_reducible (change cx_I (_, sx_ua _ _ _ _, _))); refine cx_I_ua rfl rfl ?_ ?_ ?_) | ((with_reducible (change cx_I (_, sx_ua _ 16 _ _, _))); refine cx_I_ari ?_ ?_ ?_) | ((with_reducible (change cx_I (sx_uf _ 11 6 _, _))); refine cx_I_ufA rfl ?_ ?_ ?_ ?_) | (with_reducible exact cx_F_refl _ _) | ((with_reducible (change cx_F _ _ (sx_uf _ _ _ _, _))); refine cx_F_uf rfl ?_) | ((with_reducible (change cx_F _ _ (_, sx_ua _ _ _ _, _))); refine cx_F_ua rfl ?_) | ((with_reducible (change cx_I (_, sx_cpy _ _ _ _ _ _, _))); refine cx_I_cpy rfl rfl rfl (by decide) ?_) | ((with_reducible (change cx_F _ _ (_, sx_cpy _ _ _ _ _ _, _))); refine cx_F_cpy rfl ?_) | ((with_reducible (change cx_F _ _ _)); refine cx_F_step (by assumption) rfl ?_) | fail)
  all_goals (first | trivial | omega | assumption | rfl | (dsimp only at *; omega) | (simp only [sx_uf_if, sx_ua_if, sx_w_t, true_and, and_true, and_self, and_false, false_and, if_true, if_false, reduceIte] at *; omega) | (subst_vars; rfl) | (subst_vars; omega) | (subst_vars; decide +kernel))

theorem c_xbchar4 {sL : Nat} {sx : Nat → Int32} (hsL : sL ≤ 3072) (d : Nat) (hd : 2 ≤ d) : ∀ (i0 : Int) (s : sx_S) (K : Int → sx_S → Prop), cx_I s → (0 ≤ i0 ∧ i0 ≤ 0) → (∀ z : Int, (i0 = 0 → z = 111) → K z s) → sx_C sL sx d 226 [.inr (.inl 1000010), .inl i0] s K := by
  intro i0 s K hI p0 hK
  obtain ⟨d, rfl⟩ : ∃ e, d = e + 2 := ⟨d - 2, by omega⟩
  exact sx_meth (wr := true) (n := 400) hsL (e := eJ1_charAt_3b067) rfl (w_xbchar4 (Q := fun _ _ _ => False)  hI p0 hK)

theorem w_xschar4 {CALL : sx_Ca} {sL : Nat} {sx : Nat → Int32} {Q : Nat → sx_L → sx_S → Prop} {R : Int → sx_S → Prop} (h_isLatin4 : ∀ (s : sx_S) (K : Int → sx_S → Prop), cx_I s → (∀ z : Int, (z = 1) → K z s) → CALL 225 [.inr (.inl 1000009)] s K) (h_xbchar4 : ∀ (i0 : Int) (s : sx_S) (K : Int → sx_S → Prop), cx_I s → (0 ≤ i0 ∧ i0 ≤ 0) → (∀ z : Int, (i0 = 0 → z = 111) → K z s) → CALL 226 [.inr (.inl 1000010), .inl i0] s K) {s : sx_S} {i0 : Int} (hI : cx_I s) (p0 : (0 ≤ i0 ∧ i0 ≤ 0)) (hK : ∀ z : Int, (i0 = 0 → z = 111) → R z s) : sx_wp true sL sx eJ0_charAt_5068e CALL [] Q R 400 0 (sx_argsF 0 [.inr (.inl 1000009), .inl i0]) [] s := by
  repeat' (first | (with_reducible intro _) | (refine And.intro ?_ ?_) | (refine hK _ ?_) | (refine h_isLatin4 _ _ ?_  ?_) | (refine h_xbchar4 _ _ _ ?_ ?_ ?_))
  all_goals (try dsimp only)
  repeat' (first | (with_reducible assumption) | ((with_reducible (change cx_I (sx_uf _ _ _ _, _))); refine cx_I_uf rfl rfl ?_ ?_ ?_) | ((with_reducible (change cx_I (_, sx_ua _ _ _ _, _))); refine cx_I_ua rfl rfl ?_ ?_ ?_) | ((with_reducible (change cx_I (_, sx_ua _ 16 _ _, _))); refine cx_I_ari ?_ ?_ ?_) | ((with_reducible (change cx_I (sx_uf _ 11 6 _, _))); refine cx_I_ufA rfl ?_ ?_ ?_ ?_) | (with_reducible exact cx_F_refl _ _) | ((with_reducible (change cx_F _ _ (sx_uf _ _ _ _, _))); refine cx_F_uf rfl ?_) | ((with_reducible (change cx_F _ _ (_, sx_ua _ _ _ _, _))); refine cx_F_ua rfl ?_) | ((with_reducible (change cx_I (_, sx_cpy _ _ _ _ _ _, _))); refine cx_I_cpy rfl rfl rfl (by decide) ?_) | ((with_reducible (change cx_F _ _ (_, sx_cpy _ _ _ _ _ _, _))); refine cx_F_cpy rfl ?_) | ((with_reducible (change cx_F _ _ _)); refine cx_F_step (by assumption) rfl ?_) | fail)
  all_goals (first | trivial | omega | assumption | rfl | (dsimp only at *; omega) | (simp only [sx_uf_if, sx_ua_if, sx_w_t, true_and, and_true, and_self, and_false, false_and, if_true, if_false, reduceIte] at *; omega) | (subst_vars; rfl) | (subst_vars; omega) | (subst_vars; decide +kernel))

theorem c_xschar4 {sL : Nat} {sx : Nat → Int32} (hsL : sL ≤ 3072) (d : Nat) (hd : 3 ≤ d) : ∀ (i0 : Int) (s : sx_S) (K : Int → sx_S → Prop), cx_I s → (0 ≤ i0 ∧ i0 ≤ 0) → (∀ z : Int, (i0 = 0 → z = 111) → K z s) → sx_C sL sx d 221 [.inr (.inl 1000009), .inl i0] s K := by
  intro i0 s K hI p0 hK
  obtain ⟨d, rfl⟩ : ∃ e, d = e + 2 := ⟨d - 2, by omega⟩
  exact sx_meth (wr := true) (n := 400) hsL (e := eJ0_charAt_5068e) rfl (w_xschar4 (Q := fun _ _ _ => False) (c_isLatin4 hsL (d + 1) (by omega)) (c_xbchar4 hsL (d + 1) (by omega)) hI p0 hK)

theorem w_xbchar5 {CALL : sx_Ca} {sL : Nat} {sx : Nat → Int32} {Q : Nat → sx_L → sx_S → Prop} {R : Int → sx_S → Prop} {s : sx_S} {i0 : Int} (hI : cx_I s) (p0 : (0 ≤ i0 ∧ i0 ≤ 0)) (hK : ∀ z : Int, (i0 = 0 → z = 105) → R z s) : sx_wp true sL sx eJ1_charAt_3b067 CALL [] Q R 400 0 (sx_argsF 0 [.inr (.inl 1000012), .inl i0]) [] s := by
  rcases (by omega : i0 = 0) with rfl
  repeat' (first | (with_reducible intro _) | (refine And.intro ?_ ?_) | (refine hK _ ?_))
  all_goals (try dsimp only)
  repeat' (first | (with_reducible assumption) | ((with_reducible (change cx_I (sx_uf _ _ _ _, _))); refine cx_I_uf rfl rfl ?_ ?_ ?_) | ((with_reducible (change cx_I (_, sx_ua _ _ _ _, _))); refine cx_I_ua rfl rfl ?_ ?_ ?_) | ((with_reducible (change cx_I (_, sx_ua _ 16 _ _, _))); refine cx_I_ari ?_ ?_ ?_) | ((with_reducible (change cx_I (sx_uf _ 11 6 _, _))); refine cx_I_ufA rfl ?_ ?_ ?_ ?_) | (with_reducible exact cx_F_refl _ _) | ((with_reducible (change cx_F _ _ (sx_uf _ _ _ _, _))); refine cx_F_uf rfl ?_) | ((with_reducible (change cx_F _ _ (_, sx_ua _ _ _ _, _))); refine cx_F_ua rfl ?_) | ((with_reducible (change cx_I (_, sx_cpy _ _ _ _ _ _, _))); refine cx_I_cpy rfl rfl rfl (by decide) ?_) | ((with_reducible (change cx_F _ _ (_, sx_cpy _ _ _ _ _ _, _))); refine cx_F_cpy rfl ?_) | ((with_reducible (change cx_F _ _ _)); refine cx_F_step (by assumption) rfl ?_) | fail)
  all_goals (first | trivial | omega | assumption | rfl | (dsimp only at *; omega) | (simp only [sx_uf_if, sx_ua_if, sx_w_t, true_and, and_true, and_self, and_false, false_and, if_true, if_false, reduceIte] at *; omega) | (subst_vars; rfl) | (subst_vars; omega) | (subst_vars; decide +kernel))

theorem c_xbchar5 {sL : Nat} {sx : Nat → Int32} (hsL : sL ≤ 3072) (d : Nat) (hd : 2 ≤ d) : ∀ (i0 : Int) (s : sx_S) (K : Int → sx_S → Prop), cx_I s → (0 ≤ i0 ∧ i0 ≤ 0) → (∀ z : Int, (i0 = 0 → z = 105) → K z s) → sx_C sL sx d 226 [.inr (.inl 1000012), .inl i0] s K := by
  intro i0 s K hI p0 hK
  obtain ⟨d, rfl⟩ : ∃ e, d = e + 2 := ⟨d - 2, by omega⟩
  exact sx_meth (wr := true) (n := 400) hsL (e := eJ1_charAt_3b067) rfl (w_xbchar5 (Q := fun _ _ _ => False)  hI p0 hK)

theorem w_xschar5 {CALL : sx_Ca} {sL : Nat} {sx : Nat → Int32} {Q : Nat → sx_L → sx_S → Prop} {R : Int → sx_S → Prop} (h_isLatin5 : ∀ (s : sx_S) (K : Int → sx_S → Prop), cx_I s → (∀ z : Int, (z = 1) → K z s) → CALL 225 [.inr (.inl 1000011)] s K) (h_xbchar5 : ∀ (i0 : Int) (s : sx_S) (K : Int → sx_S → Prop), cx_I s → (0 ≤ i0 ∧ i0 ≤ 0) → (∀ z : Int, (i0 = 0 → z = 105) → K z s) → CALL 226 [.inr (.inl 1000012), .inl i0] s K) {s : sx_S} {i0 : Int} (hI : cx_I s) (p0 : (0 ≤ i0 ∧ i0 ≤ 0)) (hK : ∀ z : Int, (i0 = 0 → z = 105) → R z s) : sx_wp true sL sx eJ0_charAt_5068e CALL [] Q R 400 0 (sx_argsF 0 [.inr (.inl 1000011), .inl i0]) [] s := by
  repeat' (first | (with_reducible intro _) | (refine And.intro ?_ ?_) | (refine hK _ ?_) | (refine h_isLatin5 _ _ ?_  ?_) | (refine h_xbchar5 _ _ _ ?_ ?_ ?_))
  all_goals (try dsimp only)
  repeat' (first | (with_reducible assumption) | ((with_reducible (change cx_I (sx_uf _ _ _ _, _))); refine cx_I_uf rfl rfl ?_ ?_ ?_) | ((with_reducible (change cx_I (_, sx_ua _ _ _ _, _))); refine cx_I_ua rfl rfl ?_ ?_ ?_) | ((with_reducible (change cx_I (_, sx_ua _ 16 _ _, _))); refine cx_I_ari ?_ ?_ ?_) | ((with_reducible (change cx_I (sx_uf _ 11 6 _, _))); refine cx_I_ufA rfl ?_ ?_ ?_ ?_) | (with_reducible exact cx_F_refl _ _) | ((with_reducible (change cx_F _ _ (sx_uf _ _ _ _, _))); refine cx_F_uf rfl ?_) | ((with_reducible (change cx_F _ _ (_, sx_ua _ _ _ _, _))); refine cx_F_ua rfl ?_) | ((with_reducible (change cx_I (_, sx_cpy _ _ _ _ _ _, _))); refine cx_I_cpy rfl rfl rfl (by decide) ?_) | ((with_reducible (change cx_F _ _ (_, sx_cpy _ _ _ _ _ _, _))); refine cx_F_cpy rfl ?_) | ((with_reducible (change cx_F _ _ _)); refine cx_F_step (by assumption) rfl ?_) | fail)
  all_goals (first | trivial | omega | assumption | rfl | (dsimp only at *; omega) | (simp only [sx_uf_if, sx_ua_if, sx_w_t, true_and, and_true, and_self, and_false, false_and, if_true, if_false, reduceIte] at *; omega) | (subst_vars; rfl) | (subst_vars; omega) | (subst_vars; decide +kernel))

theorem c_xschar5 {sL : Nat} {sx : Nat → Int32} (hsL : sL ≤ 3072) (d : Nat) (hd : 3 ≤ d) : ∀ (i0 : Int) (s : sx_S) (K : Int → sx_S → Prop), cx_I s → (0 ≤ i0 ∧ i0 ≤ 0) → (∀ z : Int, (i0 = 0 → z = 105) → K z s) → sx_C sL sx d 221 [.inr (.inl 1000011), .inl i0] s K := by
  intro i0 s K hI p0 hK
  obtain ⟨d, rfl⟩ : ∃ e, d = e + 2 := ⟨d - 2, by omega⟩
  exact sx_meth (wr := true) (n := 400) hsL (e := eJ0_charAt_5068e) rfl (w_xschar5 (Q := fun _ _ _ => False) (c_isLatin5 hsL (d + 1) (by omega)) (c_xbchar5 hsL (d + 1) (by omega)) hI p0 hK)

theorem w_rx_byteAt {CALL : sx_Ca} {b : Nat → Int} {n : Int} {sL : Nat} {sx : Nat → Int32} {Q : Nat → sx_L → sx_S → Prop} {R : Int → sx_S → Prop} {s : sx_S} {a0 : Int} (hI : cx_I s) (p0 : (0 ≤ a0 ∧ a0 ≤ 100000)) (p1 : (s.2.1 68 = b)) (p2 : (s.1 66 3 = n)) (hK : ∀ z : Int, (0 ≤ z ∧ z ≤ 255) → (a0 < n → z = b a0.toNat) → (n ≤ a0 → z = 0) → R z s) : sx_wp true sL sx eX12_byteAt CALL [] Q R 400 0 (sx_argsF 0 [.inr (.inl 66), .inl a0]) [] s := by
  repeat' (first | (with_reducible intro _) | (refine And.intro ?_ ?_) | (refine hK _ ?_ ?_ ?_))
  all_goals (try dsimp only)
  repeat' (first | (with_reducible assumption) | ((with_reducible (change cx_I (sx_uf _ _ _ _, _))); refine cx_I_uf rfl rfl ?_ ?_ ?_) | ((with_reducible (change cx_I (_, sx_ua _ _ _ _, _))); refine cx_I_ua rfl rfl ?_ ?_ ?_) | ((with_reducible (change cx_I (_, sx_ua _ 16 _ _, _))); refine cx_I_ari ?_ ?_ ?_) | ((with_reducible (change cx_I (sx_uf _ 11 6 _, _))); refine cx_I_ufA rfl ?_ ?_ ?_ ?_) | (with_reducible exact cx_F_refl _ _) | ((with_reducible (change cx_F _ _ (sx_uf _ _ _ _, _))); refine cx_F_uf rfl ?_) | ((with_reducible (change cx_F _ _ (_, sx_ua _ _ _ _, _))); refine cx_F_ua rfl ?_) | ((with_reducible (change cx_I (_, sx_cpy _ _ _ _ _ _, _))); refine cx_I_cpy rfl rfl rfl (by decide) ?_) | ((with_reducible (change cx_F _ _ (_, sx_cpy _ _ _ _ _ _, _))); refine cx_F_cpy rfl ?_) | ((with_reducible (change cx_F _ _ _)); refine cx_F_step (by assumption) rfl ?_) | fail)
  all_goals (first | trivial | omega | assumption | rfl | (dsimp only at *; omega) | (simp only [sx_uf_if, sx_ua_if, sx_w_t, true_and, and_true, and_self, and_false, false_and, if_true, if_false, reduceIte] at *; omega) | (subst_vars; rfl) | (subst_vars; omega) | (subst_vars; decide +kernel))

theorem c_rx_byteAt {sL : Nat} {sx : Nat → Int32} (hsL : sL ≤ 3072) (d : Nat) (hd : 2 ≤ d) (b : Nat → Int) (n : Int) : ∀ (a0 : Int) (s : sx_S) (K : Int → sx_S → Prop), cx_I s → (0 ≤ a0 ∧ a0 ≤ 100000) → (s.2.1 68 = b) → (s.1 66 3 = n) → (∀ z : Int, (0 ≤ z ∧ z ≤ 255) → (a0 < n → z = b a0.toNat) → (n ≤ a0 → z = 0) → K z s) → sx_C sL sx d 151 [.inr (.inl 66), .inl a0] s K := by
  intro a0 s K hI p0 p1 p2 hK
  obtain ⟨d, rfl⟩ : ∃ e, d = e + 2 := ⟨d - 2, by omega⟩
  exact sx_meth (wr := true) (n := 400) hsL (e := eX12_byteAt) rfl (w_rx_byteAt (Q := fun _ _ _ => False)  hI p0 p1 p2 hK)

theorem w_rx_isLetter {CALL : sx_Ca} {sL : Nat} {sx : Nat → Int32} {Q : Nat → sx_L → sx_S → Prop} {R : Int → sx_S → Prop} {s : sx_S} {c : Int} (hI : cx_I s) (p0 : (-2147483648 ≤ c ∧ c ≤ 2147483647)) (hK : ∀ z : Int, (z = 0 ∨ z = 1) → (z ≠ 0 → ((97 ≤ c ∧ c ≤ 122) ∨ (65 ≤ c ∧ c ≤ 90))) → (z = 0 → ¬ ((97 ≤ c ∧ c ≤ 122) ∨ (65 ≤ c ∧ c ≤ 90))) → R z s) : sx_wp true sL sx eX12_isLetter CALL [] Q R 400 0 (sx_argsF 0 [.inl c]) [] s := by
  repeat' (first | (with_reducible intro _) | (refine And.intro ?_ ?_) | (refine hK _ ?_ ?_ ?_))
  all_goals (try dsimp only)
  repeat' (first | (with_reducible assumption) | ((with_reducible (change cx_I (sx_uf _ _ _ _, _))); refine cx_I_uf rfl rfl ?_ ?_ ?_) | ((with_reducible (change cx_I (_, sx_ua _ _ _ _, _))); refine cx_I_ua rfl rfl ?_ ?_ ?_) | ((with_reducible (change cx_I (_, sx_ua _ 16 _ _, _))); refine cx_I_ari ?_ ?_ ?_) | ((with_reducible (change cx_I (sx_uf _ 11 6 _, _))); refine cx_I_ufA rfl ?_ ?_ ?_ ?_) | (with_reducible exact cx_F_refl _ _) | ((with_reducible (change cx_F _ _ (sx_uf _ _ _ _, _))); refine cx_F_uf rfl ?_) | ((with_reducible (change cx_F _ _ (_, sx_ua _ _ _ _, _))); refine cx_F_ua rfl ?_) | ((with_reducible (change cx_I (_, sx_cpy _ _ _ _ _ _, _))); refine cx_I_cpy rfl rfl rfl (by decide) ?_) | ((with_reducible (change cx_F _ _ (_, sx_cpy _ _ _ _ _ _, _))); refine cx_F_cpy rfl ?_) | ((with_reducible (change cx_F _ _ _)); refine cx_F_step (by assumption) rfl ?_) | fail)
  all_goals (first | trivial | omega | assumption | rfl | (dsimp only at *; omega) | (simp only [sx_uf_if, sx_ua_if, sx_w_t, true_and, and_true, and_self, and_false, false_and, if_true, if_false, reduceIte] at *; omega) | (subst_vars; rfl) | (subst_vars; omega) | (subst_vars; decide +kernel))

theorem c_rx_isLetter {sL : Nat} {sx : Nat → Int32} (hsL : sL ≤ 3072) (d : Nat) (hd : 2 ≤ d) : ∀ (c : Int) (s : sx_S) (K : Int → sx_S → Prop), cx_I s → (-2147483648 ≤ c ∧ c ≤ 2147483647) → (∀ z : Int, (z = 0 ∨ z = 1) → (z ≠ 0 → ((97 ≤ c ∧ c ≤ 122) ∨ (65 ≤ c ∧ c ≤ 90))) → (z = 0 → ¬ ((97 ≤ c ∧ c ≤ 122) ∨ (65 ≤ c ∧ c ≤ 90))) → K z s) → sx_C sL sx d 152 [.inl c] s K := by
  intro c s K hI p0 hK
  obtain ⟨d, rfl⟩ : ∃ e, d = e + 2 := ⟨d - 2, by omega⟩
  exact sx_meth (wr := true) (n := 400) hsL (e := eX12_isLetter) rfl (w_rx_isLetter (Q := fun _ _ _ => False)  hI p0 hK)

theorem w_rx_isDigit {CALL : sx_Ca} {sL : Nat} {sx : Nat → Int32} {Q : Nat → sx_L → sx_S → Prop} {R : Int → sx_S → Prop} {s : sx_S} {c : Int} (hI : cx_I s) (p0 : (-2147483648 ≤ c ∧ c ≤ 2147483647)) (hK : ∀ z : Int, (z = 0 ∨ z = 1) → (z ≠ 0 → 48 ≤ c ∧ c ≤ 57) → (z = 0 → ¬ (48 ≤ c ∧ c ≤ 57)) → R z s) : sx_wp true sL sx eX12_isDigit CALL [] Q R 400 0 (sx_argsF 0 [.inl c]) [] s := by
  repeat' (first | (with_reducible intro _) | (refine And.intro ?_ ?_) | (refine hK _ ?_ ?_ ?_))
  all_goals (try dsimp only)
  repeat' (first | (with_reducible assumption) | ((with_reducible (change cx_I (sx_uf _ _ _ _, _))); refine cx_I_uf rfl rfl ?_ ?_ ?_) | ((with_reducible (change cx_I (_, sx_ua _ _ _ _, _))); refine cx_I_ua rfl rfl ?_ ?_ ?_) | ((with_reducible (change cx_I (_, sx_ua _ 16 _ _, _))); refine cx_I_ari ?_ ?_ ?_) | ((with_reducible (change cx_I (sx_uf _ 11 6 _, _))); refine cx_I_ufA rfl ?_ ?_ ?_ ?_) | (with_reducible exact cx_F_refl _ _) | ((with_reducible (change cx_F _ _ (sx_uf _ _ _ _, _))); refine cx_F_uf rfl ?_) | ((with_reducible (change cx_F _ _ (_, sx_ua _ _ _ _, _))); refine cx_F_ua rfl ?_) | ((with_reducible (change cx_I (_, sx_cpy _ _ _ _ _ _, _))); refine cx_I_cpy rfl rfl rfl (by decide) ?_) | ((with_reducible (change cx_F _ _ (_, sx_cpy _ _ _ _ _ _, _))); refine cx_F_cpy rfl ?_) | ((with_reducible (change cx_F _ _ _)); refine cx_F_step (by assumption) rfl ?_) | fail)
  all_goals (first | trivial | omega | assumption | rfl | (dsimp only at *; omega) | (simp only [sx_uf_if, sx_ua_if, sx_w_t, true_and, and_true, and_self, and_false, false_and, if_true, if_false, reduceIte] at *; omega) | (subst_vars; rfl) | (subst_vars; omega) | (subst_vars; decide +kernel))

theorem c_rx_isDigit {sL : Nat} {sx : Nat → Int32} (hsL : sL ≤ 3072) (d : Nat) (hd : 2 ≤ d) : ∀ (c : Int) (s : sx_S) (K : Int → sx_S → Prop), cx_I s → (-2147483648 ≤ c ∧ c ≤ 2147483647) → (∀ z : Int, (z = 0 ∨ z = 1) → (z ≠ 0 → 48 ≤ c ∧ c ≤ 57) → (z = 0 → ¬ (48 ≤ c ∧ c ≤ 57)) → K z s) → sx_C sL sx d 153 [.inl c] s K := by
  intro c s K hI p0 hK
  obtain ⟨d, rfl⟩ : ∃ e, d = e + 2 := ⟨d - 2, by omega⟩
  exact sx_meth (wr := true) (n := 400) hsL (e := eX12_isDigit) rfl (w_rx_isDigit (Q := fun _ _ _ => False)  hI p0 hK)
