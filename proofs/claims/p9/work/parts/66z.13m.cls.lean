/-! ===== the desk: its own methods ===== -/
theorem w_hasSolution {CALL : sx_Ca} {sL : Nat} {sx : Nat → Int32} {Q : Nat → sx_L → sx_S → Prop} {R : Int → sx_S → Prop} {s : sx_S} (hI : cx_I s) (hK : ∀ z : Int, (0 ≤ z ∧ z ≤ 1) → R z s) : sx_wp true sL sx eX11_hasSolution CALL [] Q R 400 0 (sx_argsF 0 [.inr (.inl 0)]) [] s := by
  repeat' (first | (with_reducible intro _) | (refine And.intro ?_ ?_) | (refine hK _ ?_))
  all_goals (try dsimp only)
  repeat' (first | (with_reducible assumption) | ((with_reducible (change cx_I (sx_uf _ _ _ _, _))); refine cx_I_uf rfl rfl ?_ ?_ ?_) | ((with_reducible (change cx_I (_, sx_ua _ _ _ _, _))); refine cx_I_ua rfl rfl ?_ ?_ ?_) | ((with_reducible (change cx_I (_, sx_ua _ 16 _ _, _))); refine cx_I_ari ?_ ?_ ?_) | ((with_reducible (change cx_I (sx_uf _ 11 6 _, _))); refine cx_I_ufA rfl ?_ ?_ ?_ ?_) | (with_reducible exact cx_F_refl _ _) | ((with_reducible (change cx_F _ _ (sx_uf _ _ _ _, _))); refine cx_F_uf rfl ?_) | ((with_reducible (change cx_F _ _ (_, sx_ua _ _ _ _, _))); refine cx_F_ua rfl ?_) | ((with_reducible (change cx_I (_, sx_cpy _ _ _ _ _ _, _))); refine cx_I_cpy rfl rfl rfl (by decide) ?_) | ((with_reducible (change cx_F _ _ (_, sx_cpy _ _ _ _ _ _, _))); refine cx_F_cpy rfl ?_) | ((with_reducible (change cx_F _ _ _)); refine cx_F_step (by assumption) rfl ?_) | fail)
  all_goals (first | trivial | omega | (dsimp only at *; omega) | (simp only [sx_uf_if, sx_ua_if, sx_w_t, true_and, and_true, and_self, and_false, false_and, if_true, if_false, reduceIte] at *; omega) | (subst_vars; rfl) | (subst_vars; decide))

theorem c_hasSolution {sL : Nat} {sx : Nat → Int32} (hsL : sL ≤ 3072) (d : Nat) (hd : 2 ≤ d) : ∀ (s : sx_S) (K : Int → sx_S → Prop), cx_I s → (∀ z : Int, (0 ≤ z ∧ z ≤ 1) → K z s) → sx_C sL sx d 147 [.inr (.inl 0)] s K := by
  intro  s K hI  hK
  obtain ⟨d, rfl⟩ : ∃ e, d = e + 2 := ⟨d - 2, by omega⟩
  exact sx_meth (wr := true) (n := 400) hsL (e := eX11_hasSolution) rfl (w_hasSolution (Q := fun _ _ _ => False)  hI  hK)

theorem w_dtold {CALL : sx_Ca} {sL : Nat} {sx : Nat → Int32} {Q : Nat → sx_L → sx_S → Prop} {R : Int → sx_S → Prop} {s : sx_S} {a0 : Int} (hI : cx_I s) (p0 : (-2147483648 ≤ a0 ∧ a0 ≤ 2147483647)) (hK : ∀ z : Int, (-2147483648 ≤ z ∧ z ≤ 2147483647) → R z s) : sx_wp true sL sx eX11_told CALL [] Q R 400 0 (sx_argsF 0 [.inr (.inl 0), .inl a0]) [] s := by
  repeat' (first | (with_reducible intro _) | (refine And.intro ?_ ?_) | (refine hK _ ?_))
  all_goals (try dsimp only)
  repeat' (first | (with_reducible assumption) | ((with_reducible (change cx_I (sx_uf _ _ _ _, _))); refine cx_I_uf rfl rfl ?_ ?_ ?_) | ((with_reducible (change cx_I (_, sx_ua _ _ _ _, _))); refine cx_I_ua rfl rfl ?_ ?_ ?_) | ((with_reducible (change cx_I (_, sx_ua _ 16 _ _, _))); refine cx_I_ari ?_ ?_ ?_) | ((with_reducible (change cx_I (sx_uf _ 11 6 _, _))); refine cx_I_ufA rfl ?_ ?_ ?_ ?_) | (with_reducible exact cx_F_refl _ _) | ((with_reducible (change cx_F _ _ (sx_uf _ _ _ _, _))); refine cx_F_uf rfl ?_) | ((with_reducible (change cx_F _ _ (_, sx_ua _ _ _ _, _))); refine cx_F_ua rfl ?_) | ((with_reducible (change cx_I (_, sx_cpy _ _ _ _ _ _, _))); refine cx_I_cpy rfl rfl rfl (by decide) ?_) | ((with_reducible (change cx_F _ _ (_, sx_cpy _ _ _ _ _ _, _))); refine cx_F_cpy rfl ?_) | ((with_reducible (change cx_F _ _ _)); refine cx_F_step (by assumption) rfl ?_) | fail)
  all_goals (first | trivial | omega | (dsimp only at *; omega) | (simp only [sx_uf_if, sx_ua_if, sx_w_t, true_and, and_true, and_self, and_false, false_and, if_true, if_false, reduceIte] at *; omega) | (subst_vars; rfl) | (subst_vars; decide))

theorem c_dtold {sL : Nat} {sx : Nat → Int32} (hsL : sL ≤ 3072) (d : Nat) (hd : 2 ≤ d) : ∀ (a0 : Int) (s : sx_S) (K : Int → sx_S → Prop), cx_I s → (-2147483648 ≤ a0 ∧ a0 ≤ 2147483647) → (∀ z : Int, (-2147483648 ≤ z ∧ z ≤ 2147483647) → K z s) → sx_C sL sx d 139 [.inr (.inl 0), .inl a0] s K := by
  intro a0 s K hI p0 hK
  obtain ⟨d, rfl⟩ : ∃ e, d = e + 2 := ⟨d - 2, by omega⟩
  exact sx_meth (wr := true) (n := 400) hsL (e := eX11_told) rfl (w_dtold (Q := fun _ _ _ => False)  hI p0 hK)

theorem w_dcount {CALL : sx_Ca} {sL : Nat} {sx : Nat → Int32} {Q : Nat → sx_L → sx_S → Prop} {R : Int → sx_S → Prop} (h_chconstants : ∀ (s : sx_S) (K : Int → sx_S → Prop), cx_I s → (∀ z : Int, (0 ≤ z ∧ z ≤ 8) → K z s) → CALL 14 [.inr (.inl 18)] s K) (h_chunknowns : ∀ (s : sx_S) (K : Int → sx_S → Prop), cx_I s → (∀ z : Int, (0 ≤ z ∧ z ≤ 5) → K z s) → CALL 15 [.inr (.inl 18)] s K) (h_chequations : ∀ (s : sx_S) (K : Int → sx_S → Prop), cx_I s → (∀ z : Int, (0 ≤ z ∧ z ≤ 4) → K z s) → CALL 16 [.inr (.inl 18)] s K) {s : sx_S} {a0 : Int} (hI : cx_I s) (p0 : (-2147483648 ≤ a0 ∧ a0 ≤ 2147483647)) (hK : ∀ z : Int, (-2147483648 ≤ z ∧ z ≤ 2147483647) → R z s) : sx_wp true sL sx eX11_count CALL [] Q R 400 0 (sx_argsF 0 [.inr (.inl 0), .inl a0]) [] s := by
  repeat' (first | (with_reducible intro _) | (refine And.intro ?_ ?_) | (refine hK _ ?_) | (refine h_chconstants _ _ ?_  ?_) | (refine h_chunknowns _ _ ?_  ?_) | (refine h_chequations _ _ ?_  ?_))
  all_goals (try dsimp only)
  repeat' (first | (with_reducible assumption) | ((with_reducible (change cx_I (sx_uf _ _ _ _, _))); refine cx_I_uf rfl rfl ?_ ?_ ?_) | ((with_reducible (change cx_I (_, sx_ua _ _ _ _, _))); refine cx_I_ua rfl rfl ?_ ?_ ?_) | ((with_reducible (change cx_I (_, sx_ua _ 16 _ _, _))); refine cx_I_ari ?_ ?_ ?_) | ((with_reducible (change cx_I (sx_uf _ 11 6 _, _))); refine cx_I_ufA rfl ?_ ?_ ?_ ?_) | (with_reducible exact cx_F_refl _ _) | ((with_reducible (change cx_F _ _ (sx_uf _ _ _ _, _))); refine cx_F_uf rfl ?_) | ((with_reducible (change cx_F _ _ (_, sx_ua _ _ _ _, _))); refine cx_F_ua rfl ?_) | ((with_reducible (change cx_I (_, sx_cpy _ _ _ _ _ _, _))); refine cx_I_cpy rfl rfl rfl (by decide) ?_) | ((with_reducible (change cx_F _ _ (_, sx_cpy _ _ _ _ _ _, _))); refine cx_F_cpy rfl ?_) | ((with_reducible (change cx_F _ _ _)); refine cx_F_step (by assumption) rfl ?_) | fail)
  all_goals (first | trivial | omega | (dsimp only at *; omega) | (simp only [sx_uf_if, sx_ua_if, sx_w_t, true_and, and_true, and_self, and_false, false_and, if_true, if_false, reduceIte] at *; omega) | (subst_vars; rfl) | (subst_vars; decide))

theorem c_dcount {sL : Nat} {sx : Nat → Int32} (hsL : sL ≤ 3072) (d : Nat) (hd : 4 ≤ d) : ∀ (a0 : Int) (s : sx_S) (K : Int → sx_S → Prop), cx_I s → (-2147483648 ≤ a0 ∧ a0 ≤ 2147483647) → (∀ z : Int, (-2147483648 ≤ z ∧ z ≤ 2147483647) → K z s) → sx_C sL sx d 140 [.inr (.inl 0), .inl a0] s K := by
  intro a0 s K hI p0 hK
  obtain ⟨d, rfl⟩ : ∃ e, d = e + 2 := ⟨d - 2, by omega⟩
  exact sx_meth (wr := true) (n := 400) hsL (e := eX11_count) rfl (w_dcount (Q := fun _ _ _ => False) (c_chconstants hsL (d + 1) (by omega)) (c_chunknowns hsL (d + 1) (by omega)) (c_chequations hsL (d + 1) (by omega)) hI p0 hK)

theorem c_unifiesD {sL : Nat} {sx : Nat → Int32} (hsL : sL ≤ 3072) (d : Nat) (hd : 8 ≤ d) : ∀ (s : sx_S) (K : Int → sx_S → Prop), cx_I s → (∀ (z : Int) (t : sx_S), cx_I t → cx_F [(11, 17), (29, 54)] s t → (0 ≤ z ∧ z ≤ 1) → (t.1 0 1 = s.1 0 1 ∧ t.1 0 2 = s.1 0 2) → K z t) → sx_C sL sx d 70 [.inr (.inl 38), .inr (.inl 18)] s K := by
  intro  s K hI  hK
  exact c_unifies hsL d hd _ _ hI  (fun z t hJ hF q0 => hK z t hJ hF q0 ⟨congrFun (hF.same 0 rfl).1 1, congrFun (hF.same 0 rfl).1 2⟩)

theorem c_tkreadD {sL : Nat} {sx : Nat → Int32} (hsL : sL ≤ 3072) (d : Nat) (hd : 8 ≤ d) : ∀ (a0 : Int) (s : sx_S) (K : Int → sx_S → Prop), cx_I s → (0 ≤ a0 ∧ a0 ≤ 240) → (∀ (z : Int) (t : sx_S), cx_I t → cx_F [(2, 6)] s t → (t.1 0 1 = s.1 0 1 ∧ t.1 0 2 = s.1 0 2) → K z t) → sx_C sL sx d 100 [.inr (.inl 2), .inr (.inl 1), .inl a0] s K := by
  intro a0 s K hI p0 hK
  exact c_tkread hsL d hd _ _ _ hI p0 (fun z t hJ hF q0 => hK z t hJ hF  ⟨congrFun (hF.same 0 rfl).1 1, congrFun (hF.same 0 rfl).1 2⟩)

theorem c_gacceptsD {sL : Nat} {sx : Nat → Int32} (hsL : sL ≤ 3072) (d : Nat) (hd : 78 ≤ d) : ∀ (s : sx_S) (K : Int → sx_S → Prop), cx_I s → (∀ (z : Int) (t : sx_S), cx_I t → cx_F [(7, 7)] s t → (0 ≤ z ∧ z ≤ 1) → (t.1 0 1 = s.1 0 1 ∧ t.1 0 2 = s.1 0 2) → K z t) → sx_C sL sx d 35 [.inr (.inl 7)] s K := by
  intro  s K hI  hK
  exact c_gaccepts hsL d hd _ _ hI  (fun z t hJ hF q0 => hK z t hJ hF q0 ⟨congrFun (hF.same 0 rfl).1 1, congrFun (hF.same 0 rfl).1 2⟩)

theorem c_cacceptsD {sL : Nat} {sx : Nat → Int32} (hsL : sL ≤ 3072) (d : Nat) (hd : 164 ≤ d) : ∀ (s : sx_S) (K : Int → sx_S → Prop), cx_I s → (∀ (z : Int) (t : sx_S), cx_I t → cx_F [(8, 28)] s t → (0 ≤ z ∧ z ≤ 1) → (t.1 0 1 = s.1 0 1 ∧ t.1 0 2 = s.1 0 2) → K z t) → sx_C sL sx d 11 [.inr (.inl 18)] s K := by
  intro  s K hI  hK
  exact c_caccepts hsL d hd _ _ hI  (fun z t hJ hF q0 => hK z t hJ hF q0 ⟨congrFun (hF.same 0 rfl).1 1, congrFun (hF.same 0 rfl).1 2⟩)

theorem w_dfresh {CALL : sx_Ca} {sL : Nat} {sx : Nat → Int32} {Q : Nat → sx_L → sx_S → Prop} {R : Int → sx_S → Prop} (h_hasSolution : ∀ (s : sx_S) (K : Int → sx_S → Prop), cx_I s → (∀ z : Int, (0 ≤ z ∧ z ≤ 1) → K z s) → CALL 147 [.inr (.inl 0)] s K) (h_wown : ∀ (s : sx_S) (K : Int → sx_S → Prop), cx_I s → (∀ z : Int, (-2147483648 ≤ z ∧ z ≤ 2147483647) → K z s) → CALL 121 [.inr (.inl 55)] s K) {s : sx_S} (hI : cx_I s) (hK : ∀ z : Int, (-2147483648 ≤ z ∧ z ≤ 2147483647) → R z s) : sx_wp true sL sx eX11_fresh CALL [] Q R 400 0 (sx_argsF 0 [.inr (.inl 0)]) [] s := by
  repeat' (first | (with_reducible intro _) | (refine And.intro ?_ ?_) | (refine hK _ ?_) | (refine h_hasSolution _ _ ?_  ?_) | (refine h_wown _ _ ?_  ?_))
  all_goals (try dsimp only)
  repeat' (first | (with_reducible assumption) | ((with_reducible (change cx_I (sx_uf _ _ _ _, _))); refine cx_I_uf rfl rfl ?_ ?_ ?_) | ((with_reducible (change cx_I (_, sx_ua _ _ _ _, _))); refine cx_I_ua rfl rfl ?_ ?_ ?_) | ((with_reducible (change cx_I (_, sx_ua _ 16 _ _, _))); refine cx_I_ari ?_ ?_ ?_) | ((with_reducible (change cx_I (sx_uf _ 11 6 _, _))); refine cx_I_ufA rfl ?_ ?_ ?_ ?_) | (with_reducible exact cx_F_refl _ _) | ((with_reducible (change cx_F _ _ (sx_uf _ _ _ _, _))); refine cx_F_uf rfl ?_) | ((with_reducible (change cx_F _ _ (_, sx_ua _ _ _ _, _))); refine cx_F_ua rfl ?_) | ((with_reducible (change cx_I (_, sx_cpy _ _ _ _ _ _, _))); refine cx_I_cpy rfl rfl rfl (by decide) ?_) | ((with_reducible (change cx_F _ _ (_, sx_cpy _ _ _ _ _ _, _))); refine cx_F_cpy rfl ?_) | ((with_reducible (change cx_F _ _ _)); refine cx_F_step (by assumption) rfl ?_) | fail)
  all_goals (first | trivial | omega | (dsimp only at *; omega) | (simp only [sx_uf_if, sx_ua_if, sx_w_t, true_and, and_true, and_self, and_false, false_and, if_true, if_false, reduceIte] at *; omega) | (subst_vars; rfl) | (subst_vars; decide))

theorem c_dfresh {sL : Nat} {sx : Nat → Int32} (hsL : sL ≤ 3072) (d : Nat) (hd : 3 ≤ d) : ∀ (s : sx_S) (K : Int → sx_S → Prop), cx_I s → (∀ z : Int, (-2147483648 ≤ z ∧ z ≤ 2147483647) → K z s) → sx_C sL sx d 142 [.inr (.inl 0)] s K := by
  intro  s K hI  hK
  obtain ⟨d, rfl⟩ : ∃ e, d = e + 2 := ⟨d - 2, by omega⟩
  exact sx_meth (wr := true) (n := 400) hsL (e := eX11_fresh) rfl (w_dfresh (Q := fun _ _ _ => False) (c_hasSolution hsL (d + 1) (by omega)) (c_wown hsL (d + 1) (by omega)) hI  hK)
