section
theorem w_wown {CALL : sx_Ca} {sL : Nat} {sx : Nat → Int32} {Q : Nat → sx_L → sx_S → Prop} {R : Int → sx_S → Prop} {s : sx_S} (hI : cx_I s) (hK : ∀ z : Int, (-2147483648 ≤ z ∧ z ≤ 2147483647) → R z s) : sx_wp true sL sx eX10_ownUnknowns CALL [] Q R 400 0 (sx_argsF 0 [.inr (.inl 55)]) [] s := by
  repeat' (first | (with_reducible intro _) | (refine And.intro ?_ ?_) | (refine hK _ ?_))
  all_goals (try dsimp only)
  repeat' (first | (with_reducible assumption) | ((with_reducible (change cx_I (sx_uf _ _ _ _, _))); refine cx_I_uf rfl rfl ?_ ?_ ?_) | ((with_reducible (change cx_I (_, sx_ua _ _ _ _, _))); refine cx_I_ua rfl rfl ?_ ?_ ?_) | ((with_reducible (change cx_I (_, sx_ua _ 16 _ _, _))); refine cx_I_ari ?_ ?_ ?_) | ((with_reducible (change cx_I (sx_uf _ 11 6 _, _))); refine cx_I_ufA rfl ?_ ?_ ?_ ?_) | (with_reducible exact cx_F_refl _ _) | ((with_reducible (change cx_F _ _ (sx_uf _ _ _ _, _))); refine cx_F_uf rfl ?_) | ((with_reducible (change cx_F _ _ (_, sx_ua _ _ _ _, _))); refine cx_F_ua rfl ?_) | ((with_reducible (change cx_I (_, sx_cpy _ _ _ _ _ _, _))); refine cx_I_cpy rfl rfl rfl (by decide) ?_) | ((with_reducible (change cx_F _ _ (_, sx_cpy _ _ _ _ _ _, _))); refine cx_F_cpy rfl ?_) | ((with_reducible (change cx_F _ _ _)); refine cx_F_step (by assumption) rfl ?_) | fail)
  all_goals (first | trivial | omega | (dsimp only at *; omega) | (simp only [sx_uf_if, sx_ua_if, sx_w_t, true_and, and_true, and_self, and_false, false_and, if_true, if_false, reduceIte] at *; omega) | (subst_vars; rfl) | (subst_vars; decide))

theorem c_wown {sL : Nat} {sx : Nat → Int32} (hsL : sL ≤ 3072) (d : Nat) (hd : 2 ≤ d) : ∀ (s : sx_S) (K : Int → sx_S → Prop), cx_I s → (∀ z : Int, (-2147483648 ≤ z ∧ z ≤ 2147483647) → K z s) → sx_C sL sx d 121 [.inr (.inl 55)] s K := by
  intro  s K hI  hK
  obtain ⟨d, rfl⟩ : ∃ e, d = e + 2 := ⟨d - 2, by omega⟩
  exact sx_meth (wr := true) (n := 400) hsL (e := eX10_ownUnknowns) rfl (w_wown (Q := fun _ _ _ => False)  hI  hK)
end
section
/-! ===== the desk: its own methods ===== -/
theorem w_hasSolution {CALL : sx_Ca} {sL : Nat} {sx : Nat → Int32} {Q : Nat → sx_L → sx_S → Prop} {R : Int → sx_S → Prop} {s : sx_S} (hI : cx_I s) (hK : ∀ z : Int, (0 ≤ z ∧ z ≤ 1) → R z s) : sx_wp true sL sx eX11_hasSolution CALL [] Q R 400 0 (sx_argsF 0 [.inr (.inl 0)]) [] s := by
  repeat' (first | (with_reducible intro _) | (refine And.intro ?_ ?_) | (refine hK _ ?_))
  all_goals (try dsimp only)
  repeat' (first | (with_reducible assumption) | ((with_reducible (change cx_I (sx_uf _ _ _ _, _))); refine cx_I_uf rfl rfl ?_ ?_ ?_) | ((with_reducible (change cx_I (_, sx_ua _ _ _ _, _))); refine cx_I_ua rfl rfl ?_ ?_ ?_) | ((with_reducible (change cx_I (_, sx_ua _ 16 _ _, _))); refine cx_I_ari ?_ ?_ ?_) | ((with_reducible (change cx_I (sx_uf _ 11 6 _, _))); refine cx_I_ufA rfl ?_ ?_ ?_ ?_) | (with_reducible exact cx_F_refl _ _) | ((with_reducible (change cx_F _ _ (sx_uf _ _ _ _, _))); refine cx_F_uf rfl ?_) | ((with_reducible (change cx_F _ _ (_, sx_ua _ _ _ _, _))); refine cx_F_ua rfl ?_) | ((with_reducible (change cx_I (_, sx_cpy _ _ _ _ _ _, _))); refine cx_I_cpy rfl rfl rfl (by decide) ?_) | ((with_reducible (change cx_F _ _ (_, sx_cpy _ _ _ _ _ _, _))); refine cx_F_cpy rfl ?_) | ((with_reducible (change cx_F _ _ _)); refine cx_F_step (by assumption) rfl ?_) | fail)
  all_goals (first | trivial | omega | (dsimp only at *; omega) | (simp only [sx_uf_if, sx_ua_if, sx_w_t, true_and, and_true, and_self, and_false, false_and, if_true, if_false, reduceIte] at *; omega) | (subst_vars; rfl) | (subst_vars; decide))

theorem c_hasSolution {sL : Nat} {sx : Nat → Int32} (hsL : sL ≤ 3072) (d : Nat) (hd : 2 ≤ d) : ∀ (s : sx_S) (K : Int → sx_S → Prop), cx_I s → (∀ z : Int, (0 ≤ z ∧ z ≤ 1) → K z s) → sx_C sL sx d 147 [.inr (.inl 0)] s K := by
  intro  s K hI  hK
  obtain ⟨d, rfl⟩ : ∃ e, d = e + 2 := ⟨d - 2, by omega⟩
  exact sx_meth (wr := true) (n := 400) hsL (e := eX11_hasSolution) rfl (w_hasSolution (Q := fun _ _ _ => False)  hI  hK)

theorem w_dtold {CALL : sx_Ca} {sL : Nat} {sx : Nat → Int32} {Q : Nat → sx_L → sx_S → Prop} {R : Int → sx_S → Prop} {s : sx_S} {a0 : Int} (hI : cx_I s) (p0 : (-2147483648 ≤ a0 ∧ a0 ≤ 2147483647)) (hK : ∀ z : Int, (-2147483648 ≤ z ∧ z ≤ 2147483647) → R z s) : sx_wp true sL sx eX11_told CALL [] Q R 400 0 (sx_argsF 0 [.inr (.inl 0), .inl a0]) [] s := by
  repeat' (first | (with_reducible intro _) | (refine And.intro ?_ ?_) | (refine hK _ ?_))
  all_goals (try dsimp only)
  repeat' (first | (with_reducible assumption) | ((with_reducible (change cx_I (sx_uf _ _ _ _, _))); refine cx_I_uf rfl rfl ?_ ?_ ?_) | ((with_reducible (change cx_I (_, sx_ua _ _ _ _, _))); refine cx_I_ua rfl rfl ?_ ?_ ?_) | ((with_reducible (change cx_I (_, sx_ua _ 16 _ _, _))); refine cx_I_ari ?_ ?_ ?_) | ((with_reducible (change cx_I (sx_uf _ 11 6 _, _))); refine cx_I_ufA rfl ?_ ?_ ?_ ?_) | (with_reducible exact cx_F_refl _ _) | ((with_reducible (change cx_F _ _ (sx_uf _ _ _ _, _))); refine cx_F_uf rfl ?_) | ((with_reducible (change cx_F _ _ (_, sx_ua _ _ _ _, _))); refine cx_F_ua rfl ?_) | ((with_reducible (change cx_I (_, sx_cpy _ _ _ _ _ _, _))); refine cx_I_cpy rfl rfl rfl (by decide) ?_) | ((with_reducible (change cx_F _ _ (_, sx_cpy _ _ _ _ _ _, _))); refine cx_F_cpy rfl ?_) | ((with_reducible (change cx_F _ _ _)); refine cx_F_step (by assumption) rfl ?_) | fail)
  all_goals (first | trivial | omega | (dsimp only at *; omega) | (simp only [sx_uf_if, sx_ua_if, sx_w_t, true_and, and_true, and_self, and_false, false_and, if_true, if_false, reduceIte] at *; omega) | (subst_vars; rfl) | (subst_vars; decide))

theorem c_dtold {sL : Nat} {sx : Nat → Int32} (hsL : sL ≤ 3072) (d : Nat) (hd : 2 ≤ d) : ∀ (a0 : Int) (s : sx_S) (K : Int → sx_S → Prop), cx_I s → (-2147483648 ≤ a0 ∧ a0 ≤ 2147483647) → (∀ z : Int, (-2147483648 ≤ z ∧ z ≤ 2147483647) → K z s) → sx_C sL sx d 139 [.inr (.inl 0), .inl a0] s K := by
  intro a0 s K hI p0 hK
  obtain ⟨d, rfl⟩ : ∃ e, d = e + 2 := ⟨d - 2, by omega⟩
  exact sx_meth (wr := true) (n := 400) hsL (e := eX11_told) rfl (w_dtold (Q := fun _ _ _ => False)  hI p0 hK)

theorem w_dcount {CALL : sx_Ca} {sL : Nat} {sx : Nat → Int32} {Q : Nat → sx_L → sx_S → Prop} {R : Int → sx_S → Prop} (h_chconstants : ∀ (s : sx_S) (K : Int → sx_S → Prop), cx_I s → (∀ z : Int, (0 ≤ z ∧ z ≤ 8) → K z s) → CALL 14 [.inr (.inl 18)] s K) (h_chunknowns : ∀ (s : sx_S) (K : Int → sx_S → Prop), cx_I s → (∀ z : Int, (0 ≤ z ∧ z ≤ 5) → K z s) → CALL 15 [.inr (.inl 18)] s K) (h_chequations : ∀ (s : sx_S) (K : Int → sx_S → Prop), cx_I s → (∀ z : Int, (0 ≤ z ∧ z ≤ 4) → K z s) → CALL 16 [.inr (.inl 18)] s K) {s : sx_S} {a0 : Int} (hI : cx_I s) (p0 : (-2147483648 ≤ a0 ∧ a0 ≤ 2147483647)) (hK : ∀ z : Int, (-2147483648 ≤ z ∧ z ≤ 2147483647) → R z s) : sx_wp true sL sx eX11_count CALL [] Q R 400 0 (sx_argsF 0 [.inr (.inl 0), .inl a0]) [] s := by
  repeat' (first | (with_reducible intro _) | (refine And.intro ?_ ?_) | (refine hK _ ?_) | (refine h_chconstants _ _ ?_  ?_) | (refine h_chunknowns _ _ ?_  ?_) | (refine h_chequations _ _ ?_  ?_))
  all_goals (try dsimp only)
  repeat' (first | (with_reducible assumption) | ((with_reducible (change cx_I (sx_uf _ _ _ _, _))); refine cx_I_uf rfl rfl ?_ ?_ ?_) | ((with_reducible (change cx_I (_, sx_ua _ _ _ _, _))); refine cx_I_ua rfl rfl ?_ ?_ ?_) | ((with_reducible (change cx_I (_, sx_ua _ 16 _ _, _))); refine cx_I_ari ?_ ?_ ?_) | ((with_reducible (change cx_I (sx_uf _ 11 6 _, _))); refine cx_I_ufA rfl ?_ ?_ ?_ ?_) | (with_reducible exact cx_F_refl _ _) | ((with_reducible (change cx_F _ _ (sx_uf _ _ _ _, _))); refine cx_F_uf rfl ?_) | ((with_reducible (change cx_F _ _ (_, sx_ua _ _ _ _, _))); refine cx_F_ua rfl ?_) | ((with_reducible (change cx_I (_, sx_cpy _ _ _ _ _ _, _))); refine cx_I_cpy rfl rfl rfl (by decide) ?_) | ((with_reducible (change cx_F _ _ (_, sx_cpy _ _ _ _ _ _, _))); refine cx_F_cpy rfl ?_) | ((with_reducible (change cx_F _ _ _)); refine cx_F_step (by assumption) rfl ?_) | fail)
  all_goals (first | trivial | omega | (dsimp only at *; omega) | (simp only [sx_uf_if, sx_ua_if, sx_w_t, true_and, and_true, and_self, and_false, false_and, if_true, if_false, reduceIte] at *; omega) | (subst_vars; rfl) | (subst_vars; decide))

theorem c_dcount {sL : Nat} {sx : Nat → Int32} (hsL : sL ≤ 3072) (d : Nat) (hd : 4 ≤ d) : ∀ (a0 : Int) (s : sx_S) (K : Int → sx_S → Prop), cx_I s → (-2147483648 ≤ a0 ∧ a0 ≤ 2147483647) → (∀ z : Int, (-2147483648 ≤ z ∧ z ≤ 2147483647) → K z s) → sx_C sL sx d 140 [.inr (.inl 0), .inl a0] s K := by
  intro a0 s K hI p0 hK
  obtain ⟨d, rfl⟩ : ∃ e, d = e + 2 := ⟨d - 2, by omega⟩
  exact sx_meth (wr := true) (n := 400) hsL (e := eX11_count) rfl (w_dcount (Q := fun _ _ _ => False) (c_chconstants hsL (d + 1) (by omega)) (c_chunknowns hsL (d + 1) (by omega)) (c_chequations hsL (d + 1) (by omega)) hI p0 hK)

theorem c_unifiesD {sL : Nat} {sx : Nat → Int32} (hsL : sL ≤ 3072) (d : Nat) (hd : 8 ≤ d) : ∀ (s : sx_S) (K : Int → sx_S → Prop), cx_I s → (∀ (z : Int) (t : sx_S), cx_I t → cx_F [(11, 17), (29, 54)] s t → (0 ≤ z ∧ z ≤ 1) → (t.1 0 1 = s.1 0 1 ∧ t.1 0 2 = s.1 0 2) → K z t) → sx_C sL sx d 70 [.inr (.inl 38), .inr (.inl 18)] s K := by
  intro  s K hI  hK
  exact c_unifies hsL d hd _ _ hI  (fun z t hJ hF q0 => hK z t hJ hF q0 ⟨congrFun (hF.same 0 rfl).1 1, congrFun (hF.same 0 rfl).1 2⟩)

theorem c_tkreadD {sL : Nat} {sx : Nat → Int32} (hsL : sL ≤ 3072) (d : Nat) (hd : 8 ≤ d) : ∀ (a0 : Int) (s : sx_S) (K : Int → sx_S → Prop), cx_I s → (0 ≤ a0 ∧ a0 ≤ 240) → (∀ (z : Int) (t : sx_S), cx_I t → cx_F [(2, 6)] s t → (t.1 0 1 = s.1 0 1 ∧ t.1 0 2 = s.1 0 2) → K z t) → sx_C sL sx d 100 [.inr (.inl 2), .inr (.inl 1), .inl a0] s K := by
  intro a0 s K hI p0 hK
  exact c_tkread hsL d hd _ _ _ hI p0 (fun z t hJ hF q0 => hK z t hJ hF  ⟨congrFun (hF.same 0 rfl).1 1, congrFun (hF.same 0 rfl).1 2⟩)

theorem c_gacceptsD {sL : Nat} {sx : Nat → Int32} (hsL : sL ≤ 3072) (d : Nat) (hd : 78 ≤ d) : ∀ (s : sx_S) (K : Int → sx_S → Prop), cx_I s → (∀ (z : Int) (t : sx_S), cx_I t → cx_F [(7, 7)] s t → (0 ≤ z ∧ z ≤ 1) → (t.1 0 1 = s.1 0 1 ∧ t.1 0 2 = s.1 0 2) → K z t) → sx_C sL sx d 35 [.inr (.inl 7)] s K := by
  intro  s K hI  hK
  exact c_gaccepts hsL d hd _ _ hI  (fun z t hJ hF q0 => hK z t hJ hF q0 ⟨congrFun (hF.same 0 rfl).1 1, congrFun (hF.same 0 rfl).1 2⟩)

theorem c_cacceptsD {sL : Nat} {sx : Nat → Int32} (hsL : sL ≤ 3072) (d : Nat) (hd : 164 ≤ d) : ∀ (s : sx_S) (K : Int → sx_S → Prop), cx_I s → (∀ (z : Int) (t : sx_S), cx_I t → cx_F [(8, 28)] s t → (0 ≤ z ∧ z ≤ 1) → (t.1 0 1 = s.1 0 1 ∧ t.1 0 2 = s.1 0 2) → K z t) → sx_C sL sx d 11 [.inr (.inl 18)] s K := by
  intro  s K hI  hK
  exact c_caccepts hsL d hd _ _ hI  (fun z t hJ hF q0 => hK z t hJ hF q0 ⟨congrFun (hF.same 0 rfl).1 1, congrFun (hF.same 0 rfl).1 2⟩)

theorem w_dfresh {CALL : sx_Ca} {sL : Nat} {sx : Nat → Int32} {Q : Nat → sx_L → sx_S → Prop} {R : Int → sx_S → Prop} (h_hasSolution : ∀ (s : sx_S) (K : Int → sx_S → Prop), cx_I s → (∀ z : Int, (0 ≤ z ∧ z ≤ 1) → K z s) → CALL 147 [.inr (.inl 0)] s K) (h_wown : ∀ (s : sx_S) (K : Int → sx_S → Prop), cx_I s → (∀ z : Int, (-2147483648 ≤ z ∧ z ≤ 2147483647) → K z s) → CALL 121 [.inr (.inl 55)] s K) {s : sx_S} (hI : cx_I s) (hK : ∀ z : Int, (-2147483648 ≤ z ∧ z ≤ 2147483647) → R z s) : sx_wp true sL sx eX11_fresh CALL [] Q R 400 0 (sx_argsF 0 [.inr (.inl 0)]) [] s := by
  repeat' (first | (with_reducible intro _) | (refine And.intro ?_ ?_) | (refine hK _ ?_) | (refine h_hasSolution _ _ ?_  ?_) | (refine h_wown _ _ ?_  ?_))
  all_goals (try dsimp only)
  repeat' (first | (with_reducible assumption) | ((with_reducible (change cx_I (sx_uf _ _ _ _, _))); refine cx_I_uf rfl rfl ?_ ?_ ?_) | ((with_reducible (change cx_I (_, sx_ua _ _ _ _, _))); refine cx_I_ua rfl rfl ?_ ?_ ?_) | ((with_reducible (change cx_I (_, sx_ua _ 16 _ _, _))); refine cx_I_ari ?_ ?_ ?_) | ((with_reducible (change cx_I (sx_uf _ 11 6 _, _))); refine cx_I_ufA rfl ?_ ?_ ?_ ?_) | (with_reducible exact cx_F_refl _ _) | ((with_reducible (change cx_F _ _ (sx_uf _ _ _ _, _))); refine cx_F_uf rfl ?_) | ((with_reducible (change cx_F _ _ (_, sx_ua _ _ _ _, _))); refine cx_F_ua rfl ?_) | ((with_reducible (change cx_I (_, sx_cpy _ _ _ _ _ _, _))); refine cx_I_cpy rfl rfl rfl (by decide) ?_) | ((with_reducible (change cx_F _ _ (_, sx_cpy _ _ _ _ _ _, _))); refine cx_F_cpy rfl ?_) | ((with_reducible (change cx_F _ _ _)); refine cx_F_step (by assumption) rfl ?_) | fail)
  all_goals (first | trivial | omega | (dsimp only at *; omega) | (simp only [sx_uf_if, sx_ua_if, sx_w_t, true_and, and_true, and_self, and_false, false_and, if_true, if_false, reduceIte] at *; omega) | (subst_vars; rfl) | (subst_vars; decide))

theorem c_dfresh {sL : Nat} {sx : Nat → Int32} (hsL : sL ≤ 3072) (d : Nat) (hd : 3 ≤ d) : ∀ (s : sx_S) (K : Int → sx_S → Prop), cx_I s → (∀ z : Int, (-2147483648 ≤ z ∧ z ≤ 2147483647) → K z s) → sx_C sL sx d 142 [.inr (.inl 0)] s K := by
  intro  s K hI  hK
  obtain ⟨d, rfl⟩ : ∃ e, d = e + 2 := ⟨d - 2, by omega⟩
  exact sx_meth (wr := true) (n := 400) hsL (e := eX11_fresh) rfl (w_dfresh (Q := fun _ _ _ => False) (c_hasSolution hsL (d + 1) (by omega)) (c_wown hsL (d + 1) (by omega)) hI  hK)
end
section
/-! ===== the reference: parts of what is read ===== -/
theorem rf_nt_ua' {m : Int} {s : sx_S} {F A : Nat → Nat → Int} {B : (Nat → Nat → Int) × Nat} {p k : Nat} {v : Int} (hk : m ≤ (k : Int)) (h : rf_nt m s (F, A, B)) : rf_nt m s (F, sx_ua A p k v, B) := by
  intro q j h1 h2 h3
  show sx_ua A p k v q j = _
  rw [sx_ua_if]
  split
  · rw [if_neg (by omega)]
    exact h q j h1 h2 h3
  · exact h q j h1 h2 h3
def rf_nk2 (s : sx_S) (z : Int) : Prop := True → s.2.1 74 z.toNat = 2
end
section
/-! ===== the reference: terms are read ===== -/
theorem rf_nk_uf {F : Nat → Nat → Int} {B : (Nat → Nat → Int) × (Nat → Nat → Int) × Nat} {p k : Nat} {v z w : Int} (h : rf_nk (F, B) z w) : rf_nk (sx_uf F p k v, B) z w := h
theorem rf_nk_ua {F A : Nat → Nat → Int} {B : (Nat → Nat → Int) × Nat} {p k : Nat} {v z w : Int} (hp : (Nat.beq p 74 || Nat.beq p 80 || Nat.beq p 81 || Nat.beq p 84) = false) (h : rf_nk (F, A, B) z w) : rf_nk (F, sx_ua A p k v, B) z w := by
  have e : ∀ q, (Nat.beq p q) = false → sx_ua A p k v q = A q := fun q hq => sx_ua_ne (fun c => by rw [c, Nat.beq_refl] at hq; cases hq)
  simp only [Bool.or_eq_false_iff] at hp
  intro t
  obtain ⟨h1, h2, h3, h4⟩ := h t
  dsimp only
  rw [e 74 hp.1.1.1, e 80 hp.1.1.2, e 81 hp.1.2, e 84 hp.2]
  exact ⟨h1, h2, h3, h4⟩
theorem rf_nk_F {V : List (Nat × Nat)} {s t : sx_S} {z k : Int} (hF : cx_F V s t) (hV : (cx_outb V 74 && cx_outb V 80 && cx_outb V 81 && cx_outb V 84) = true) (h : rf_nk s z k) : rf_nk t z k := by
  simp only [Bool.and_eq_true] at hV
  intro q
  rw [(hF.same 74 hV.1.1.1).2, (hF.same 80 hV.1.1.2).2, (hF.same 81 hV.1.2).2, (hF.same 84 hV.2).2]
  exact h q
theorem rf_nk2_uf {F : Nat → Nat → Int} {B : (Nat → Nat → Int) × (Nat → Nat → Int) × Nat} {p k : Nat} {v z : Int} (h : rf_nk2 (F, B) z) : rf_nk2 (sx_uf F p k v, B) z := h
theorem rf_nk2_ua {F A : Nat → Nat → Int} {B : (Nat → Nat → Int) × Nat} {p k : Nat} {v z : Int} (hp : Nat.beq p 74 = false) (h : rf_nk2 (F, A, B) z) : rf_nk2 (F, sx_ua A p k v, B) z := by
  intro t
  dsimp only
  rw [sx_ua_ne (fun c => by rw [← c, Nat.beq_refl] at hp; cases hp)]
  exact h t
theorem rf_nk2_F {V : List (Nat × Nat)} {s t : sx_S} {z : Int} (hF : cx_F V s t) (hV : cx_outb V 74 = true) (h : rf_nk2 s z) : rf_nk2 t z := by
  intro q
  rw [(hF.same 74 hV).2]
  exact h q
theorem rf_nk2_nt {m : Int} {s t : sx_S} {z : Int} (hn : rf_nt m s t) (h0 : 0 ≤ z) (hz : z < m) (h : rf_nk2 s z) : rf_nk2 t z := fun q => (hn 74 z.toNat (by omega) (by omega) (by omega)).trans (h q)
theorem rf_nk2_k {s : sx_S} {z : Int} (h : rf_nk s z 2) : rf_nk2 s z := fun q => (h q).1
theorem rf_tu_ua {s : sx_S} {F A : Nat → Nat → Int} {B : (Nat → Nat → Int) × Nat} {p k : Nat} {v : Int} (h1 : Nat.beq p 72 = false) (h2 : Nat.beq p 73 = false) (h : rf_tu s (F, A, B)) : rf_tu s (F, sx_ua A p k v, B) := by
  intro j
  have q := h j
  dsimp only at q ⊢
  rw [sx_ua_ne (fun c => by rw [← c, Nat.beq_refl] at h1; cases h1), sx_ua_ne (fun c => by rw [← c, Nat.beq_refl] at h2; cases h2)]
  exact q
end
section
def rf_ty1 (s : sx_S) (k : Nat) : Prop := ∃ x : rf_T, rf_is s x (s.2.1 87 k) ∧ s.2.1 89 k = (rf_at x : Int)
/-- of the items none below n has changed -/
def rf_ie (n : Int) (s t : sx_S) : Prop := ∀ p k : Nat, 85 ≤ p → p ≤ 92 → (k : Int) < n → t.2.1 p k = s.2.1 p k
theorem rf_ie_refl (n : Int) (s : sx_S) : rf_ie n s s := fun _ _ _ _ _ => rfl
theorem rf_ie_uf {n : Int} {s : sx_S} {F : Nat → Nat → Int} {B : (Nat → Nat → Int) × (Nat → Nat → Int) × Nat} {p k : Nat} {v : Int} (h : rf_ie n s (F, B)) : rf_ie n s (sx_uf F p k v, B) := h
theorem rf_ie_ua {n : Int} {s : sx_S} {F A : Nat → Nat → Int} {B : (Nat → Nat → Int) × Nat} {p : Nat} {k v : Int} (hk : n ≤ k) (hk0 : 0 ≤ k) (h : rf_ie n s (F, A, B)) : rf_ie n s (F, sx_ua A p k.toNat v, B) := by
  intro q j h1 h2 h3
  show sx_ua A p k.toNat v q j = _
  rw [sx_ua_if]
  split
  · rw [if_neg (by omega)]
    exact h q j h1 h2 h3
  · exact h q j h1 h2 h3
theorem rf_ie_F {V : List (Nat × Nat)} {n : Int} {s t u : sx_S} (hF : cx_F V t u) (hV : (List.range 8).all (fun i => cx_outb V (85 + i)) = true) (h : rf_ie n s t) : rf_ie n s u := by
  intro p j a b c
  have := List.all_eq_true.mp hV (p - 85) (List.mem_range.mpr (by omega))
  rw [show 85 + (p - 85) = p by omega] at this
  rw [(hF.same p this).2]
  exact h p j a b c
end
section
/-! ===== the reference: long forms, piece by piece ===== -/
theorem c_r_newVarF {sL : Nat} {sx : Nat → Int32} (hsL : sL ≤ 3072) (d : Nat) (hd : 2 ≤ d) : ∀ (a0 : Int) (s : sx_S) (K : Int → sx_S → Prop), cx_I s → (0 ≤ a0 ∧ a0 ≤ 5999) → (s.1 66 58 ≤ 399999) → (∀ (z : Int) (t : sx_S), cx_I t → cx_F [(66, 66), (106, 106)] s t → (z = s.1 66 58) → (t.1 66 58 = s.1 66 58 + 1) → (rf_f [58] s t) → (rf_ag 106 106 (s.1 66 58) s t) → (t.2.1 106 z.toNat = a0) → (t.1 66 50 = s.1 66 50) → K z t) → sx_C sL sx d 167 [.inr (.inl 66), .inl a0] s K := by
  intro a0 s K hI p0 p1 hK
  exact c_r_newVar hsL d hd _ _ _ hI p0 p1 (fun z t hJ hF q0 q1 q2 q3 q4 => hK z t hJ hF q0 q1 q2 q3 q4 (q2 50 rfl))

theorem w_close {CALL : sx_Ca} {sL : Nat} {sx : Nat → Int32} {Q : Nat → sx_L → sx_S → Prop} {R : Int → sx_S → Prop} {s : sx_S} {x1 a1 : Int} (hI : cx_I s) (hQ : Q 8 [(0, .inr (.inl 66)), (1, .inl x1), (3, .inl (-1)), (4, .inl (-1)), (5, .inl a1)] s) : sx_wp true sL sx eX12_close CALL [(8, [0, 1, 3, 4, 5]), (60, [0, 1, 3, 4, 5, 6]), (105, [0, 1, 3, 4, 5])] Q R 400 0 (sx_argsF 0 [.inr (.inl 66), .inl x1, .inl a1]) [] s := by
  exact hQ
theorem w_close_105 {CALL : sx_Ca} {sL : Nat} {sx : Nat → Int32} {Q : Nat → sx_L → sx_S → Prop} {R : Int → sx_S → Prop} {s : sx_S} {x1 x3 x4 x5 : Int} (hI : cx_I s) (q5 : 0 ≤ x5 ∧ x5 ≤ 5999) (hQ : ∀ u : Int, u = s.2.1 73 x5.toNat → Q 8 [(0, .inr (.inl 66)), (1, .inl x1), (3, .inl x3), (4, .inl x4), (5, .inl u)] s) : sx_wp true sL sx eX12_close CALL [(8, [0, 1, 3, 4, 5]), (60, [0, 1, 3, 4, 5, 6]), (105, [0, 1, 3, 4, 5])] Q R 400 105 [(0, .inr (.inl 66)), (1, .inl x1), (3, .inl x3), (4, .inl x4), (5, .inl x5)] [] s := by
  repeat' (first | (with_reducible intro _) | (refine And.intro ?_ ?_) | (refine hQ _ ?_))
  all_goals (try dsimp only)
  all_goals (first | trivial | assumption | omega | (dsimp only at *; omega) | (simp only [sx_w_t] at *; omega) | (exfalso; omega) | (subst_vars; omega) | (subst_vars; assumption) | (subst_vars; dsimp only at *; omega) | (subst_vars; dsimp only at *; simp only [sx_w_t] at *; omega) | (exfalso; subst_vars; omega))
theorem w_close_60 {CALL : sx_Ca} {sL : Nat} {sx : Nat → Int32} {Q : Nat → sx_L → sx_S → Prop} {R : Int → sx_S → Prop} {s : sx_S} {x1 x3 x4 x5 x6 : Int} {PL : Int → sx_S → Prop} {PA : sx_S → Prop} (hI : cx_I s) (q1 : 0 ≤ x1 ∧ x1 ≤ 59999) (q6 : 0 ≤ x6 ∧ x6 ≤ 399999) (hv : s.1 66 56 ≤ 119999) (hQm : s.2.1 100 x1.toNat = 3 → ∀ w n : Int, w = s.1 66 56 + 1 → n = s.1 66 56 → Q 105 [(0, .inr (.inl 66)), (1, .inl x1), (3, .inl x3), (4, .inl x4), (5, .inl x5)] (sx_uf s.1 66 56 w, sx_ua s.2.1 105 n.toNat x6, s.2.2)) (hL : s.2.1 100 x1.toNat ≠ 3 → ∀ K : Int → sx_S → Prop, (∀ p t, PL p t → K p t) → CALL 181 [.inr (.inl 66), .inl x6] s K) (hA : ∀ (p : Int) (t : sx_S), PL p t → ∀ K : Int → sx_S → Prop, (∀ z t', PA t' → K z t') → CALL 179 [.inr (.inl 66), .inl x1, .inl p] t K) (hQa : ∀ t', PA t' → Q 105 [(0, .inr (.inl 66)), (1, .inl x1), (3, .inl x3), (4, .inl x4), (5, .inl x5)] t') : sx_wp true sL sx eX12_close CALL [(8, [0, 1, 3, 4, 5]), (60, [0, 1, 3, 4, 5, 6]), (105, [0, 1, 3, 4, 5])] Q R 400 60 [(0, .inr (.inl 66)), (1, .inl x1), (3, .inl x3), (4, .inl x4), (5, .inl x5), (6, .inl x6)] [] s := by
  have h56 := hI.fld 66 56 (by decide) rfl
  repeat' (first | (with_reducible intro _) | (refine And.intro ?_ ?_) | (refine hQm ?_ _ _ ?_ ?_) | (refine hL ?_ _ ?_) | (refine hA _ _ (by assumption) _ ?_) | (refine hQa _ ?_))
  all_goals (try dsimp only)
  all_goals (first | trivial | assumption | omega | (dsimp only at *; omega) | (simp only [sx_w_t] at *; omega) | (simp only [sx_uf_if, sx_ua_if, sx_w_t, true_and, and_true, and_self, and_false, false_and, if_true, if_false, reduceIte] at *; omega) | (subst_vars; omega) | (subst_vars; dsimp only at *; omega) | (refine cx_I_ua rfl rfl hI ?_ ?_ <;> omega))
theorem w_close_8 {CALL : sx_Ca} {sL : Nat} {sx : Nat → Int32} {Q : Nat → sx_L → sx_S → Prop} {R : Int → sx_S → Prop} (h_new : ∀ (a0 : Int) (s : sx_S) (K : Int → sx_S → Prop), cx_I s → (0 ≤ a0 ∧ a0 ≤ 5999) → (s.1 66 58 ≤ 399999) → (∀ (z : Int) (t : sx_S), cx_I t → cx_F [(66, 66), (106, 106)] s t → (z = s.1 66 58) → (t.1 66 58 = s.1 66 58 + 1) → (rf_f [58] s t) → (rf_ag 106 106 (s.1 66 58) s t) → (t.2.1 106 z.toNat = a0) → (t.1 66 50 = s.1 66 50) → K z t) → CALL 167 [.inr (.inl 66), .inl a0] s K) (h_make : ∀ (a0 a1 : Int) (s : sx_S) (K : Int → sx_S → Prop), cx_I s → (0 ≤ a0 ∧ a0 ≤ 3) → (-2147483648 ≤ a1 ∧ a1 ≤ 2147483647) → (s.1 66 50 ≤ 59999) → (∀ (z : Int) (t : sx_S), cx_I t → cx_F [(66, 66), (100, 103)] s t → (z = s.1 66 50) → (t.1 66 50 = s.1 66 50 + 1) → (rf_f [50] s t) → (rf_ag 100 103 (s.1 66 50) s t) → (rf_mk t z a0 a1) → K z t) → CALL 178 [.inr (.inl 66), .inl a0, .inl a1] s K) {s : sx_S} {x1 x3 x4 x5 : Int} (hI : cx_I s) (q1 : 0 ≤ x1 ∧ x1 ≤ 59999) (q3 : -1 ≤ x3 ∧ x3 ≤ 59999) (q4 : x3 ≠ -1 → 0 ≤ x4 ∧ x4 ≤ 59999) (q5 : 0 ≤ x5 ∧ x5 ≤ 5999) (h50 : s.1 66 50 ≤ 59999) (h58 : s.1 66 58 ≤ 399999) (hK1 : x5 ≤ 1 → x3 = -1 → R x1 s) (hK2 : x5 ≤ 1 → x3 ≠ -1 → R x3 (s.1, sx_ua s.2.1 102 x4.toNat x1, s.2.2)) (hQ1 : 2 ≤ x5 → x3 = -1 → ∀ (z6 z7 : Int) (t1 t2 : sx_S), cx_F [(66, 66), (100, 103)] t1 t2 → cx_I t2 → z7 = t1.1 66 50 → t2.1 66 50 = t1.1 66 50 + 1 → rf_f [50] t1 t2 → rf_ag 100 103 (t1.1 66 50) t1 t2 → rf_mk t2 z7 0 z6 → cx_F [(66, 66), (106, 106)] s t1 → cx_I t1 → z6 = s.1 66 58 → t1.1 66 58 = s.1 66 58 + 1 → rf_f [58] s t1 → rf_ag 106 106 (s.1 66 58) s t1 → t1.1 66 50 = s.1 66 50 → t1.2.1 106 z6.toNat = s.2.1 72 x5.toNat → Q 60 [(0, .inr (.inl 66)), (1, .inl x1), (3, .inl z7), (4, .inl z7), (5, .inl x5), (6, .inl z6)] t2) (hQ2 : 2 ≤ x5 → x3 ≠ -1 → ∀ (z6 z7 : Int) (t1 t2 : sx_S), cx_F [(66, 66), (100, 103)] t1 t2 → cx_I t2 → z7 = t1.1 66 50 → t2.1 66 50 = t1.1 66 50 + 1 → rf_f [50] t1 t2 → rf_ag 100 103 (t1.1 66 50) t1 t2 → rf_mk t2 z7 0 z6 → cx_F [(66, 66), (106, 106)] s t1 → cx_I t1 → z6 = s.1 66 58 → t1.1 66 58 = s.1 66 58 + 1 → rf_f [58] s t1 → rf_ag 106 106 (s.1 66 58) s t1 → t1.1 66 50 = s.1 66 50 → t1.2.1 106 z6.toNat = s.2.1 72 x5.toNat → Q 60 [(0, .inr (.inl 66)), (1, .inl x1), (3, .inl x3), (4, .inl z7), (5, .inl x5), (6, .inl z6)] (t2.1, sx_ua t2.2.1 102 x4.toNat z7, t2.2.2)) : sx_wp true sL sx eX12_close CALL [(8, [0, 1, 3, 4, 5]), (60, [0, 1, 3, 4, 5, 6]), (105, [0, 1, 3, 4, 5])] Q R 400 8 [(0, .inr (.inl 66)), (1, .inl x1), (3, .inl x3), (4, .inl x4), (5, .inl x5)] [] s := by
  have h58' := hI.fld 66 58 (by decide) rfl
  repeat' (first | (with_reducible intro _) | (refine And.intro ?_ ?_) | (exact hK1 (by omega) (by omega)) | (exact hK2 (by omega) (by omega)) | (refine hQ1 (by omega) (by omega) _ _ _ _ (by assumption) (by assumption) (by assumption) (by assumption) (by assumption) (by assumption) (by assumption) (by assumption) (by assumption) (by assumption) (by assumption) (by assumption) (by assumption) (by assumption) ?_) | (refine hQ2 (by omega) (by omega) _ _ _ _ (by assumption) (by assumption) (by assumption) (by assumption) (by assumption) (by assumption) (by assumption) (by assumption) (by assumption) (by assumption) (by assumption) (by assumption) (by assumption) (by assumption) ?_) | (refine h_new _ _ _ ?_ ?_ ?_ ?_) | (refine h_make _ _ _ _ ?_ ?_ ?_ ?_ ?_))
  all_goals (try dsimp only)
  all_goals (first | trivial | assumption | omega | (dsimp only at *; omega) | (subst_vars; assumption) | (subst_vars; omega) | skip)
end
section
/-! ===== the reference: a long form under way ===== -/
/-- the tree of a node under way: its parts, the state behind add -/
theorem rf_app_tr {lo mid hi : Int} {s t : sx_S} {a0 a1 : Int} {j : Nat} {k : Int × Int} {f tp : rf_N} (h12 : t.1 66 50 = s.1 66 50) (hR : rf_no s (.inner j k () f .leaf) a0) (hn : (rf_idx (.inner j k () f .leaf)).Nodup) (hb : ∀ i ∈ rf_idx (.inner j k () f .leaf), lo ≤ (i : Int) ∧ (i : Int) < mid) (hp : rf_no s tp a1) (hpn : (rf_idx tp).Nodup) (hpb : ∀ i ∈ rf_idx tp, mid ≤ (i : Int) ∧ (i : Int) < hi) (hmh : mid ≤ hi)
    (ht : (f = .leaf ∧ t.2.1 = sx_ua s.2.1 102 a0.toNat a1) ∨ (f ≠ .leaf ∧ t.2.1 = sx_ua s.2.1 103 (rf_last f 0) a1)) : rf_no t (.inner j k () (rf_snoc f tp) .leaf) a0 ∧ (rf_idx (.inner j k () (rf_snoc f tp) .leaf)).Nodup ∧ (∀ i ∈ rf_idx (.inner j k () (rf_snoc f tp) .leaf), lo ≤ (i : Int) ∧ (i : Int) < hi) ∧ rf_no t tp a1 := by
  obtain ⟨⟨e0, e1⟩, ⟨e2, e3⟩, hf, hx⟩ := hR
  have hja : j = a0.toNat := by omega
  have hj0 := hb j List.mem_cons_self
  obtain ⟨n1, n2⟩ := List.nodup_cons.mp hn
  have n2' : (rf_idx f).Nodup := (List.nodup_append.mp n2).1
  have n1' : j ∉ rf_idx f := fun q => n1 (List.mem_append_left _ q)
  have hfb : ∀ i ∈ rf_idx f, lo ≤ (i : Int) ∧ (i : Int) < mid := fun i hi => hb i (List.mem_cons_of_mem _ (List.mem_append_left _ hi))
  have hdis : ∀ i, i ∈ rf_idx f → i ∉ rf_idx tp := fun i a b => by
    have := (hfb i a).2
    have := (hpb i b).1
    omega
  have hjp : j ∉ rf_idx tp := fun b => by
    have := (hpb j b).1
    omega
  have hidx : ∀ i, i ∈ rf_idx (.inner j k () (rf_snoc f tp) .leaf) ↔ i = j ∨ i ∈ rf_idx f ∨ i ∈ rf_idx tp := fun i => by
    show i ∈ j :: (rf_idx (rf_snoc f tp) ++ []) ↔ _
    rw [List.append_nil, List.mem_cons, rf_idx_snoc]
  have hnod : (rf_idx (.inner j k () (rf_snoc f tp) .leaf)).Nodup := by
    show (j :: (rf_idx (rf_snoc f tp) ++ [])).Nodup
    rw [List.append_nil]
    refine List.nodup_cons.mpr ⟨fun q => ?_, rf_nodup_snoc f tp n2' hpn hdis⟩
    rcases (rf_idx_snoc f tp j).mp q with q | q
    · exact n1' q
    · exact hjp q
  refine ⟨?_, hnod, fun i hi' => ?_, ?_⟩
  · rcases ht with ⟨hl, ht⟩ | ⟨hl, ht⟩
    · subst hl
      have q100 : t.2.1 100 = s.2.1 100 := by rw [ht, sx_ua_ne (by decide)]
      have q101 : t.2.1 101 = s.2.1 101 := by rw [ht, sx_ua_ne (by decide)]
      have q103 : t.2.1 103 = s.2.1 103 := by rw [ht, sx_ua_ne (by decide)]
      have q102 : t.2.1 102 = fun i => if i = a0.toNat then a1 else s.2.1 102 i := by rw [ht, sx_ua_same]
      refine ⟨⟨e0, by rw [h12]; exact e1⟩, ⟨by rw [q100]; exact e2, by rw [q101]; exact e3⟩, ?_, ?_⟩
      · rw [q102]
        dsimp only
        rw [if_pos hja]
        refine rf_nd_mono (Int.le_of_eq h12.symm) (fun i hi => ⟨by rw [q100], by rw [q101], ?_, by rw [q103]⟩) hp
        show (if i = a0.toNat then a1 else s.2.1 102 i) = s.2.1 102 i
        rw [if_neg (fun e => hjp (by rw [hja, ← e]; exact hi))]
      · rw [q103]
        exact hx
    · have q100 : t.2.1 100 = s.2.1 100 := by rw [ht, sx_ua_ne (by decide)]
      have q101 : t.2.1 101 = s.2.1 101 := by rw [ht, sx_ua_ne (by decide)]
      have q102 : t.2.1 102 = s.2.1 102 := by rw [ht, sx_ua_ne (by decide)]
      have q103 : t.2.1 103 = fun i => if i = rf_last f 0 then a1 else s.2.1 103 i := by rw [ht, sx_ua_same]
      have hlm := rf_last_mem f 0 hl
      have hp' : rf_nd (t.2.1 100) (t.2.1 101) (t.2.1 102) (t.2.1 103) (t.1 66 50) tp a1 := by
        refine rf_nd_mono (Int.le_of_eq h12.symm) (fun i hi => ⟨by rw [q100], by rw [q101], by rw [q102], ?_⟩) hp
        rw [q103]
        dsimp only
        rw [if_neg (fun e => hdis _ hlm (by rw [← e]; exact hi))]
      refine ⟨⟨e0, by rw [h12]; exact e1⟩, ⟨by rw [q100]; exact e2, by rw [q101]; exact e3⟩, ?_, ?_⟩
      · have hf' : rf_nd (t.2.1 100) (t.2.1 101) (t.2.1 102) (s.2.1 103) (t.1 66 50) f (t.2.1 102 j) := by
          rw [q100, q101, q102, h12]
          exact hf
        refine rf_nd_snoc hp' hl n2' (d := 0) (fun i hi => ?_) ?_ hf'
        · rw [q103]
          dsimp only
          rw [if_neg hi]
        · rw [q103]
          dsimp only
          rw [if_pos rfl]
      · rw [q103]
        dsimp only
        rw [if_neg (fun e => n1' (by rw [e]; exact hlm))]
        exact hx
  · rcases (hidx i).mp hi' with q | q | q
    · rw [q]
      omega
    · have := hfb i q
      omega
    · have := hpb i q
      omega
  · rcases ht with ⟨hl, ht⟩ | ⟨hl, ht⟩
    · refine rf_nd_mono (Int.le_of_eq h12.symm) (fun i hi => ⟨by rw [ht, sx_ua_ne (by decide)], by rw [ht, sx_ua_ne (by decide)], ?_, by rw [ht, sx_ua_ne (by decide)]⟩) hp
      rw [ht, sx_ua_same]
      dsimp only
      rw [if_neg (fun e => hjp (by rw [hja, ← e]; exact hi))]
    · have hlm := rf_last_mem f 0 hl
      refine rf_nd_mono (Int.le_of_eq h12.symm) (fun i hi => ⟨by rw [ht, sx_ua_ne (by decide)], by rw [ht, sx_ua_ne (by decide)], by rw [ht, sx_ua_ne (by decide)], ?_⟩) hp
      rw [ht, sx_ua_same]
      dsimp only
      rw [if_neg (fun e => hdis _ hlm (by rw [← e]; exact hi))]

theorem rf_rp_snoc {s : sx_S} {A B : rf_T} {e : Int} (hv : rf_vt s (s.2.1 105 e.toNat) A) : ∀ {x : rf_T} {i : Int}, rf_rp s (rf_a A B) x i e → rf_rp s B x i (e + 1)
  | .leaf, i, h => by cases h.1
  | .inner n u v P Q, i, h => by
    rcases h with ⟨h1, h2⟩ | ⟨h1, h2⟩
    · injection h1 with e1 e2 e3 e4 e5
      subst h2 e4 e5
      refine Or.inr ⟨hv, ?_⟩
      cases B with
      | leaf => exact ⟨rfl, rfl⟩
      | inner n' u' v' P' Q' => exact Or.inl ⟨rfl, rfl⟩
    · exact Or.inr ⟨h1, rf_rp_snoc hv h2⟩
/-- head and chain: the chain leaves y, the head wants ye -/
def rf_J (x1 : Int) (k : Int × Int) (f0 : rf_N) (x : rf_T) (u : sx_S) (x3 x4 : Int) (y ye : rf_T) (i0 : Int) (pe vs : List Int) (ib : Int) : Prop := ∃ (C : List (Nat × Int)) (f : rf_N), rf_no u (.inner x1.toNat k () f .leaf) x1 ∧ (rf_idx (.inner x1.toNat k () f .leaf)).Nodup ∧ (∀ j ∈ rf_idx (.inner x1.toNat k () f .leaf), x1 ≤ (j : Int)) ∧ ((C = [] ∧ x3 = -1) ∨ (C ≠ [] ∧ rf_no u (rf_ch C .leaf) x3 ∧ x4 = (rf_cl C 0 : Int))) ∧ (C.map Prod.fst).Nodup ∧ (∀ j ∈ C.map Prod.fst, j ∉ rf_idx (.inner x1.toNat k () f .leaf) ∧ x1 ≤ (j : Int) ∧ (j : Int) < u.1 66 50) ∧ rf_ct u C x y ∧ (((k.1 = 1 ∨ k.1 = 2) ∧ ∃ w, rf_H u x1.toNat k.1 k.2 w ∧ (rf_gt (rf_H u) rf_P f).2 w ye) ∨ (k.1 = 3 ∧ f = .leaf ∧ rf_mp u x1.toNat k.2 ye (u.1 66 56))) ∧ (C.length + 1 + (rf_wh f).2 + 2 * rf_at y ≤ 2 * rf_at x + 1 + (rf_wh f0).2 ∧ C.length + rf_at ye ≤ rf_at x + 1) ∧ (∀ m, (rf_oc f).2 m ↔ (rf_oc f0).2 m) ∧ ((k.1 ≠ 3 → ∃ us g, C.map Prod.snd = us ++ pe ∧ f = rf_snoc f0 g ∧ (rf_lf2 g).2 us ∧ (rf_sc rf_G0 g).2 us) ∧ (∀ c ∈ C.map Prod.snd, i0 ≤ c ∧ c < ib) ∧ (C.map Prod.snd).Nodup ∧ (k.1 = 3 → rf_rv u x1 ++ pe = vs ++ C.map Prod.snd))
theorem rf_no_up {u t : sx_S} (ha : rf_ag 100 103 (u.1 66 50) u t) (hn : u.1 66 50 ≤ t.1 66 50) {n : rf_N} {i : Int} (h : rf_no u n i) : rf_no t n i :=
  rf_nd_up hn (fun j hj => ⟨ha 100 j (by omega) (by omega) hj, ha 101 j (by omega) (by omega) hj, ha 102 j (by omega) (by omega) hj, ha 103 j (by omega) (by omega) hj⟩) h
theorem rf_rv_up {u t : sx_S} {x1 : Int} (hx : rf_xu u t) (h56 : t.1 66 56 = u.1 66 56) (hlt : ((x1.toNat : Nat) : Int) < u.1 66 50) (h1 : 0 ≤ u.2.1 104 x1.toNat) : rf_rv t x1 = rf_rv u x1 := by
  unfold rf_rv
  have e := (hx.2 x1.toNat).2.2.2.1 hlt
  rw [e, h56]
  exact rf_rl_eq (fun q hq => (hx.2 _).2.2.1 (by omega))
theorem rf_rv_102 {u : sx_S} {x1 v : Int} {q : Nat} {Bs : (Nat → Nat → Int) × Nat} : rf_rv (u.1, sx_ua u.2.1 102 q v, Bs) x1 = rf_rv u x1 := by
  unfold rf_rv
  dsimp only
  rw [sx_ua_ne (show (104 : Nat) ≠ 102 by decide)]
  exact rf_rl_eq (s := u) (fun q hq => by
    dsimp only
    rw [sx_ua_ne (show (105 : Nat) ≠ 102 by decide)])
section RFJ
variable {x1 : Int} {k : Int × Int} {f0 : rf_N} {x : rf_T} {u t : sx_S} {x3 x4 : Int} {y ye A B : rf_T} {i0 ib : Int} {pe vs : List Int}
theorem rf_J_up (h : rf_J x1 k f0 x u x3 x4 y ye i0 pe vs ib) (ha : rf_ag 100 103 (u.1 66 50) u t) (hx : rf_xu u t) (h56 : t.1 66 56 = u.1 66 56) : rf_J x1 k f0 x t x3 x4 y ye i0 pe vs ib := by
  obtain ⟨C, f, a1, a2, a3, a4, a5, a6, a7, a8, a9, a10, a11⟩ := h
  have hn := (hx.2 0).1.2.2.1
  have hlt := rf_nd_lt a1 x1.toNat List.mem_cons_self
  have a1' := a1
  obtain ⟨_, _, af, _⟩ := a1'
  refine ⟨C, f, rf_no_up ha hn a1, a2, a3, a4.imp id (fun q => ⟨q.1, rf_no_up ha hn q.2.1, q.2.2⟩), a5, fun j hj => ⟨(a6 j hj).1, (a6 j hj).2.1, by have := (a6 j hj).2.2; omega⟩, rf_ct_up hx a7, ?_, a9, a10, ⟨a11.1, a11.2.1, a11.2.2.1, fun q => by
    rcases a8 with ⟨b1, _⟩ | ⟨_, _, xx, c, _⟩
    · omega
    · rw [rf_rv_up hx h56 hlt c.2.2.1]
      exact a11.2.2.2 q⟩⟩
  rcases a8 with ⟨b1, w, b2, b3⟩ | ⟨b1, b2, b3⟩
  · exact Or.inl ⟨b1, w, rf_H_up hx hlt b2, (rf_gt_up hx af).2 _ _ b3⟩
  · refine Or.inr ⟨b1, b2, ?_⟩
    rw [h56]
    exact rf_mp_up hx hlt b3
theorem rf_J_ib {ib' : Int} (h : rf_J x1 k f0 x u x3 x4 y ye i0 pe vs ib) (hb : ib ≤ ib') : rf_J x1 k f0 x u x3 x4 y ye i0 pe vs ib' := by
  obtain ⟨C, f, a1, a2, a3, a4, a5, a6, a7, a8, a9, a10, a11⟩ := h
  exact ⟨C, f, a1, a2, a3, a4, a5, a6, a7, a8, a9, a10, a11.1, fun c hc => ⟨(a11.2.1 c hc).1, by have := (a11.2.1 c hc).2; omega⟩, a11.2.2⟩
/-- a LAM more, the first one -/
theorem rf_J_lam1 {z6 z7 : Int} (h : rf_J x1 k f0 x t (-1) x4 (rf_a A B) (rf_a A B) i0 [] vs ib) (hz6 : i0 ≤ z6) (hib : ib ≤ z6) (hz : 0 ≤ z7 ∧ z7 + 1 = t.1 66 50) (hm : rf_mk t z7 0 z6) (hv : rf_vt t z6 A) (hz1 : x1 ≤ z7) (hfr : ∀ f, rf_no t (.inner x1.toNat k () f .leaf) x1 → z7.toNat ∉ rf_idx (.inner x1.toNat k () f .leaf)) : rf_J x1 k f0 x t z7 z7 B (rf_a A B) i0 [z6] vs (z6 + 1) := by
  obtain ⟨C, f, a1, a2, a3, a4, a5, a6, a7, a8, a9, a10, a11⟩ := h
  obtain ⟨m1, m2, m3, m4⟩ := hm trivial
  have hC : C = [] := by
    rcases a4 with ⟨q, _⟩ | ⟨_, q, _⟩
    · exact q
    · cases C with
      | nil => rfl
      | cons c l =>
        have := q.1.1
        omega
  subst hC
  have hl := rf_ct_len a7
  have hA := rf_at_pos A
  have e : rf_at (rf_a A B) = rf_at A + rf_at B := rfl
  refine ⟨[(z7.toNat, z6)], f, a1, a2, a3, Or.inr ⟨(fun q => by cases q), ⟨⟨by omega, by omega⟩, ⟨m1, m2⟩, m3, m4⟩, ?_⟩, by simp, ?_, rf_ct_snoc (C := []) hv a7, a8, ?_, a10, ⟨fun q1 => ?_, fun c hc => (by have ec : c = z6 := (by simpa using hc); rw [ec]; exact ⟨hz6, by omega⟩), by simp, fun q => ?_⟩⟩
  · show z7 = ((z7.toNat : Nat) : Int)
    omega
  · intro j hj
    have ej : j = z7.toNat := by simpa using hj
    subst ej
    exact ⟨hfr f a1, by omega, by omega⟩
  · simp only [List.length_nil, List.length_cons] at a9 hl ⊢
    omega
  · obtain ⟨us, g, e1, e2⟩ := a11.1 q1
    have e3 : us = [] := by simpa using e1.symm
    subst e3
    exact ⟨[], g, rfl, e2⟩
  · have := a11.2.2.2 q
    rw [List.append_nil] at this
    rw [this]
    simp
/-- a LAM more, below the others -/
theorem rf_J_lam2 {z6 z7 : Int} {Bs : (Nat → Nat → Int) × Nat} (h : rf_J x1 k f0 x t x3 x4 (rf_a A B) (rf_a A B) i0 [] vs ib) (hz6 : i0 ≤ z6) (hib : ib ≤ z6) (h3 : x3 ≠ -1) (hz : 0 ≤ z7 ∧ z7 + 1 = t.1 66 50) (hm : rf_mk t z7 0 z6) (hv : rf_vt t z6 A) (hz1 : x1 ≤ z7) (hfr : ∀ n i, rf_no t n i → i ≠ z7 → (∀ j ∈ rf_idx n, (j : Int) ≠ z7) ∨ True) (hfr1 : ∀ f, rf_no t (.inner x1.toNat k () f .leaf) x1 → z7.toNat ∉ rf_idx (.inner x1.toNat k () f .leaf)) (hfr2 : ∀ C : List (Nat × Int), rf_no t (rf_ch C .leaf) x3 → z7.toNat ∉ C.map Prod.fst) (hxu : rf_xu t (t.1, sx_ua t.2.1 102 x4.toNat z7, Bs)) : rf_J x1 k f0 x (t.1, sx_ua t.2.1 102 x4.toNat z7, Bs) x3 z7 B (rf_a A B) i0 [z6] vs (z6 + 1) := by
  obtain ⟨C, f, a1, a2, a3, a4, a5, a6, a7, a8, a9, a10, a11⟩ := h
  obtain ⟨m1, m2, m3, m4⟩ := hm trivial
  rcases a4 with ⟨_, q⟩ | ⟨c1, c2, c3⟩
  · exact absurd q h3
  have hl := rf_ct_len a7
  have hA := rf_at_pos A
  have e : rf_at (rf_a A B) = rf_at A + rf_at B := rfl
  have hlast := rf_cl_mem (d := 0) c1
  have e4 : x4.toNat = rf_cl C 0 := by omega
  have hnC := hfr2 C c2
  have q100 : (sx_ua t.2.1 102 x4.toNat z7) 100 = t.2.1 100 := sx_ua_ne (by decide)
  have q101 : (sx_ua t.2.1 102 x4.toNat z7) 101 = t.2.1 101 := sx_ua_ne (by decide)
  have q103 : (sx_ua t.2.1 102 x4.toNat z7) 103 = t.2.1 103 := sx_ua_ne (by decide)
  have q102 : (sx_ua t.2.1 102 x4.toNat z7) 102 = fun j => if j = x4.toNat then z7 else t.2.1 102 j := sx_ua_same _ _ _ _
  have hne : z7.toNat ≠ x4.toNat := fun q => hnC (by rw [q, e4]; exact hlast)
  have hnew : rf_nd (t.2.1 100) (t.2.1 101) ((sx_ua t.2.1 102 x4.toNat z7) 102) (t.2.1 103) (t.1 66 50) (rf_n z7.toNat 0 z6 .leaf .leaf) z7 := by
    refine ⟨⟨by omega, by omega⟩, ⟨m1, m2⟩, ?_, m4⟩
    rw [q102]
    show (if z7.toNat = x4.toNat then z7 else t.2.1 102 z7.toNat) = -1
    rw [if_neg hne]
    exact m3
  have hch := rf_ch_set (F' := (sx_ua t.2.1 102 x4.toNat z7) 102) hnew (d := 0) c1 a5 (fun j hj => by
    rw [q102]
    show (if j = x4.toNat then z7 else t.2.1 102 j) = _
    rw [if_neg (by rw [e4]; exact hj)]) (by
    rw [q102]
    show (if rf_cl C 0 = x4.toNat then z7 else _) = _
    rw [if_pos e4.symm]) c2
  have hhd : rf_no (t.1, sx_ua t.2.1 102 x4.toNat z7, Bs) (.inner x1.toNat k () f .leaf) x1 := by
    unfold rf_no
    dsimp only
    rw [q100, q101, q103]
    refine rf_nd_mono (Int.le_refl _) (fun j hj => ⟨rfl, rfl, ?_, rfl⟩) a1
    rw [q102]
    show (if j = x4.toNat then z7 else t.2.1 102 j) = _
    rw [if_neg (fun q => (a6 _ hlast).1 (by rw [← e4, ← q]; exact hj))]
  have a1' := a1
  obtain ⟨_, _, af, _⟩ := a1'
  have hlt := rf_nd_lt a1 x1.toNat List.mem_cons_self
  refine ⟨C ++ [(z7.toNat, z6)], f, hhd, a2, a3, Or.inr ⟨by simp, ?_, ?_⟩, ?_, ?_, rf_ct_up hxu (rf_ct_snoc hv a7), ?_, ?_, a10, ⟨fun q1 => ?_, fun c hc => ?_, ?_, fun q => ?_⟩⟩
  · unfold rf_no
    dsimp only
    rw [q100, q101, q103, rf_ch_snoc]
    exact hch
  · rw [rf_cl_snoc]
    omega
  · rw [List.map_append]
    refine List.nodup_append.mpr ⟨a5, by simp, fun a ha b hb q => ?_⟩
    have eb : b = z7.toNat := by simpa using hb
    exact hnC (by rw [← eb, ← q]; exact ha)
  · intro j hj
    rw [List.map_append, List.mem_append] at hj
    rcases hj with hj | hj
    · exact a6 j hj
    · have ej : j = z7.toNat := by simpa using hj
      subst ej
      exact ⟨hfr1 f a1, by omega, by show _ < t.1 66 50; omega⟩
  · rcases a8 with ⟨b1, w, b2, b3⟩ | ⟨b1, b2, b3⟩
    · exact Or.inl ⟨b1, w, rf_H_up hxu hlt b2, (rf_gt_up hxu af).2 _ _ b3⟩
    · exact Or.inr ⟨b1, b2, rf_mp_up hxu hlt b3⟩
  · rw [List.length_append]
    simp only [List.length_nil, List.length_cons]
    omega
  · obtain ⟨us, g, e1, e2⟩ := a11.1 q1
    rw [List.append_nil] at e1
    exact ⟨us, g, by rw [List.map_append, e1]; rfl, e2⟩
  · rw [List.map_append, List.mem_append] at hc
    rcases hc with hc | hc
    · have := a11.2.1 c hc
      omega
    · have ec : c = z6 := by simpa using hc
      rw [ec]
      exact ⟨hz6, by omega⟩
  · rw [List.map_append]
    refine List.nodup_append.mpr ⟨a11.2.2.1, by simp, fun a ha b hb e => ?_⟩
    have eb : b = z6 := by simpa using hb
    have := (a11.2.1 a ha).2
    omega
  · have := a11.2.2.2 q
    rw [List.append_nil] at this
    rw [List.map_append, ← List.append_assoc, ← this, rf_rv_102]
    rfl
end RFJ
end
section
/-! ===== the reference: a long form under way, its steps ===== -/
theorem rf_xu_arr {s t : sx_S} (h1 : t.1 = s.1) (h2 : ∀ p, (p = 72 ∨ p = 73 ∨ p = 96 ∨ p = 104 ∨ p = 105 ∨ p = 106 ∨ p = 123) → t.2.1 p = s.2.1 p) : rf_xu s t := by
  refine ⟨fun j => ⟨by rw [h1]; exact Int.le_refl _, fun _ => ⟨by rw [h2 72 (by decide)], by rw [h2 73 (by decide)]⟩⟩, fun j => ⟨⟨by rw [h1]; exact Int.le_refl _, by rw [h1]; exact Int.le_refl _, by rw [h1]; exact Int.le_refl _, by rw [h1], by rw [h1]⟩, fun _ => by rw [h2 106 (by decide)], fun _ => by rw [h2 105 (by decide)], fun _ => by rw [h2 104 (by decide)], by rw [h2 96 (by decide)], by rw [h2 123 (by decide)]⟩⟩
theorem rf_xu_var {s : sx_S} {B : (Nat → Nat → Int) × Nat} {w n v : Int} (hw : w = s.1 66 56 + 1) (hn : n = s.1 66 56) (h0 : 0 ≤ n) : rf_xu s (sx_uf s.1 66 56 w, sx_ua s.2.1 105 n.toNat v, B) := by
  have e : ∀ q, q ≠ 56 → sx_uf s.1 66 56 w 66 q = s.1 66 q := fun q hq => by
    rw [sx_uf_if]
    exact if_neg (fun c => hq c.2)
  have e56 : sx_uf s.1 66 56 w 66 56 = w := by
    rw [sx_uf_if]
    exact if_pos ⟨rfl, rfl⟩
  have a : ∀ q, q ≠ 105 → sx_ua s.2.1 105 n.toNat v q = s.2.1 q := fun q hq => sx_ua_ne hq
  refine ⟨fun j => ?_, fun j => ?_⟩
  · dsimp only
    rw [e 9 (by decide), a 72 (by decide), a 73 (by decide)]
    exact ⟨Int.le_refl _, fun _ => ⟨rfl, rfl⟩⟩
  · dsimp only
    rw [e 58 (by decide), e56, e 50 (by decide), e 42 (by decide), e 45 (by decide), a 106 (by decide), a 104 (by decide), a 96 (by decide), a 123 (by decide), sx_ua_same]
    dsimp only
    refine ⟨⟨Int.le_refl _, by omega, Int.le_refl _, rfl, rfl⟩, fun _ => rfl, fun hj => ?_, fun _ => rfl, rfl, rfl⟩
    rw [if_neg (by omega)]
section RFJ2
variable {x1 : Int} {k : Int × Int} {f0 : rf_N} {x : rf_T} {u t : sx_S} {x3 x4 : Int} {y ye A B : rf_T} {i0 ib : Int} {pe vs : List Int}
/-- an unknown gets a variable more -/
theorem rf_J_met {Bs : (Nat → Nat → Int) × Nat} {w n x6 : Int} (h : rf_J x1 k f0 x u x3 x4 B (rf_a A B) i0 [x6] vs ib) (hk : k.1 = 3) (hw : w = u.1 66 56 + 1) (hn : n = u.1 66 56) (h0 : 0 ≤ n) (hv : rf_vt u x6 A) : rf_J x1 k f0 x (sx_uf u.1 66 56 w, sx_ua u.2.1 105 n.toNat x6, Bs) x3 x4 B B i0 [] vs ib := by
  have hx := rf_xu_var (B := Bs) (v := x6) hw hn h0
  obtain ⟨C, f, a1, a2, a3, a4, a5, a6, a7, a8, a9, a10, a11⟩ := h
  have hlt := rf_nd_lt a1 x1.toNat List.mem_cons_self
  have e50 : sx_uf u.1 66 56 w 66 50 = u.1 66 50 := by
    rw [sx_uf_if]
    exact if_neg (fun c => by cases c.2)
  have e56 : sx_uf u.1 66 56 w 66 56 = w := by
    rw [sx_uf_if]
    exact if_pos ⟨rfl, rfl⟩
  have a : ∀ q, q ≠ 105 → sx_ua u.2.1 105 n.toNat x6 q = u.2.1 q := fun q hq => sx_ua_ne hq
  have hno : ∀ m i, rf_no u m i → rf_no (sx_uf u.1 66 56 w, sx_ua u.2.1 105 n.toNat x6, Bs) m i := fun m i q => by
    unfold rf_no at q ⊢
    dsimp only
    rw [e50, a 100 (by decide), a 101 (by decide), a 102 (by decide), a 103 (by decide)]
    exact q
  have hA := rf_at_pos A
  have e : rf_at (rf_a A B) = rf_at A + rf_at B := rfl
  rcases a8 with ⟨b1, _⟩ | ⟨b1, b2, xx, ⟨c1, c2, c3, c4⟩, c5, c6⟩
  · omega
  have hrow : rf_rv (sx_uf u.1 66 56 w, sx_ua u.2.1 105 n.toNat x6, Bs) x1 ++ [] = vs ++ C.map Prod.snd := by
    obtain ⟨_, g2⟩ := rf_rp_up (rf_xu_refl u) c3 c4 c6
    rw [List.append_nil, ← a11.2.2.2 hk]
    unfold rf_rv
    dsimp only
    rw [a 104 (by decide), e56, show (w - u.2.1 104 x1.toNat).toNat = (u.1 66 56 - u.2.1 104 x1.toNat).toNat + 1 by omega]
    rw [rf_rl_s, rf_rl_eq (s := u) (fun q hq => by
      dsimp only
      rw [sx_ua_same]
      dsimp only
      rw [if_neg (by omega)])]
    dsimp only
    rw [sx_ua_same]
    dsimp only
    rw [if_pos (by omega)]
  refine ⟨C, f, hno _ _ a1, a2, a3, a4.imp id (fun q => ⟨q.1, hno _ _ q.2.1, q.2.2⟩), a5, fun j hj => ⟨(a6 j hj).1, (a6 j hj).2.1, by dsimp only; rw [e50]; exact (a6 j hj).2.2⟩, rf_ct_up hx a7, Or.inr ⟨hk, b2, ?_⟩, by omega, a10, ⟨fun q => absurd hk q, a11.2.1, a11.2.2.1, fun _ => hrow⟩⟩
  obtain ⟨g1, g2⟩ := rf_rp_up hx c3 c4 c6
  refine ⟨xx, ⟨?_, c2, ?_, ?_⟩, ?_, ?_⟩
  · have := (hx.2 0).1.2.2.2.2
    omega
  · dsimp only
    rw [a 104 (by decide)]
    exact c3
  · dsimp only
    exact Int.le_refl _
  · dsimp only
    rw [a 123 (by decide)]
    exact rf_is_up c5 hx.1
  · dsimp only
    rw [a 104 (by decide), e56]
    have hh := rf_rp_snoc (A := A) (B := B) (by
      dsimp only
      rw [sx_ua_same]
      dsimp only
      rw [if_pos (by rw [hn])]
      exact rf_vt_up hx hv) g1
    rw [← hw] at hh
    exact hh
/-- a head gets an ARG more -/
theorem rf_J_app {n : rf_N} {p : Int} {t' : sx_S} {x6 : Int} (h : rf_J x1 k f0 x u x3 x4 B (rf_a A B) i0 [x6] vs ib) (hlf : rf_lf n x6) (hsc : (rf_sc rf_G0 n).1 [x6]) (h3 : x3 ≠ -1) (hk : k.1 ≠ 3) (ha : rf_ag 100 103 (u.1 66 50) u t) (hx : rf_xu u t) (hn : rf_no t n p) (hnd : (rf_idx n).Nodup) (hlo : ∀ j ∈ rf_idx n, u.1 66 50 ≤ (j : Int)) (hnx : rf_nx n) (hty : (rf_gt (rf_H t) rf_P n).1 A) (hwh : (rf_wh n).1 + 1 ≤ 2 * rf_at A) (hoc : ∀ m, ¬ (rf_oc n).1 m) (h1 : t'.1 = t.1) (ht : ∀ f, rf_no t (.inner x1.toNat k () f .leaf) x1 → (f = .leaf ∧ t'.2.1 = sx_ua t.2.1 102 x1.toNat p) ∨ (f ≠ .leaf ∧ t'.2.1 = sx_ua t.2.1 103 (rf_last f 0) p)) : rf_J x1 k f0 x t' x3 x4 B B i0 [] vs ib := by
  obtain ⟨C, f, a1, a2, a3, a4, a5, a6, a7, a8, a9, a10, a11⟩ := h
  have hnn := (hx.2 0).1.2.2.1
  have b1 := rf_no_up ha hnn a1
  have hlt := rf_nd_lt a1
  have hC := ht f b1
  obtain ⟨d1, d2, d3, d4⟩ := rf_app_tr (lo := x1) (mid := u.1 66 50) (hi := t.1 66 50) (by rw [h1]) b1 a2 (fun j hj => ⟨a3 j hj, hlt j hj⟩) hn hnd (fun j hj => ⟨hlo j hj, rf_nd_lt hn j hj⟩) hnn hC
  have hxu : rf_xu t t' := by
    refine rf_xu_arr h1 (fun q hq => ?_)
    rcases hC with ⟨_, e⟩ | ⟨_, e⟩
    · rw [e]
      exact sx_ua_ne (by rcases hq with rfl | rfl | rfl | rfl | rfl | rfl | rfl <;> decide)
    · rw [e]
      exact sx_ua_ne (by rcases hq with rfl | rfl | rfl | rfl | rfl | rfl | rfl <;> decide)
  have hch : ∀ i, rf_no u (rf_ch C .leaf) i → rf_no t' (rf_ch C .leaf) i := fun i q => by
    have q2 := rf_no_up ha hnn q
    refine rf_nd_mono (Int.le_of_eq (by rw [h1])) (fun j hj => ?_) q2
    have hjC : j ∈ C.map Prod.fst := (rf_ch_idx.mp hj).elim id (fun z => absurd z List.not_mem_nil)
    have hjh := (a6 j hjC).1
    rcases hC with ⟨_, e⟩ | ⟨hf, e⟩
    · refine ⟨by rw [e, sx_ua_ne (by decide)], by rw [e, sx_ua_ne (by decide)], ?_, by rw [e, sx_ua_ne (by decide)]⟩
      rw [e, sx_ua_same]
      dsimp only
      rw [if_neg (fun z => hjh (by rw [z]; exact List.mem_cons_self))]
    · refine ⟨by rw [e, sx_ua_ne (by decide)], by rw [e, sx_ua_ne (by decide)], by rw [e, sx_ua_ne (by decide)], ?_⟩
      rw [e, sx_ua_same]
      dsimp only
      rw [if_neg (fun z => hjh (by rw [z]; exact List.mem_cons_of_mem _ (List.mem_append_left _ (rf_last_mem f 0 hf))))]
  have hxt := rf_xu_trans hxu hx
  have hlx := hlt x1.toNat List.mem_cons_self
  have a1' := a1
  obtain ⟨_, _, af, _⟩ := a1'
  have hA := rf_at_pos A
  have e : rf_at (rf_a A B) = rf_at A + rf_at B := rfl
  have hl := rf_ct_len a7
  have hC1 : 1 ≤ C.length := by
    rcases a4 with ⟨_, z⟩ | ⟨z, _⟩
    · exact absurd z h3
    · cases C with
      | nil => exact absurd rfl z
      | cons c l => exact Nat.succ_pos _
  rcases a8 with ⟨b1, w, b2, b3⟩ | ⟨b1, _⟩
  · refine ⟨C, rf_snoc f n, d1, d2, fun j hj => (d3 j hj).1, a4.imp id (fun q => ⟨q.1, hch _ q.2.1, q.2.2⟩), a5, fun j hj => ⟨fun z => ?_, (a6 j hj).2.1, ?_⟩, rf_ct_up hxt a7, Or.inl ⟨b1, w, rf_H_up hxt hlx b2, rf_gt_snoc ((rf_gt_up hxt af).2 _ _ b3) ?_⟩, ?_, fun m => ?_, ⟨fun q1 => by obtain ⟨us, g, e1, e2, e3, e4⟩ := a11.1 q1; exact ⟨us ++ [x6], rf_snoc g n, by rw [List.append_nil]; exact e1, by rw [e2, rf_snoc_assoc], rf_lf2_snoc hnx hlf e3, rf_sc_snoc ((rf_sc_mono (fun _ _ _ _ _ _ q => q.elim)).2 _ _ (fun v hv => List.mem_append_left _ hv) e4) (rf_sc_12 hnx ((rf_sc_mono (fun _ _ _ _ _ _ q => q.elim)).1 _ _ (fun v hv => List.mem_append_right _ hv) hsc))⟩, a11.2.1, a11.2.2.1, fun q => absurd q hk⟩⟩
    · have z2 : j = x1.toNat ∨ j ∈ rf_idx f ∨ j ∈ rf_idx n := by
        have z3 : j ∈ x1.toNat :: (rf_idx (rf_snoc f n) ++ []) := z
        rw [List.append_nil, List.mem_cons, rf_idx_snoc] at z3
        exact z3
      rcases z2 with z | z | z
      · exact (a6 j hj).1 (by rw [z]; exact List.mem_cons_self)
      · exact (a6 j hj).1 (List.mem_cons_of_mem _ (List.mem_append_left _ z))
      · have := hlo j z
        have := (a6 j hj).2.2
        omega
    · rw [h1]
      have := (a6 j hj).2.2
      omega
    · cases n with
      | leaf => exact hty.elim
      | inner nj nk nu nf nn =>
        have en : nn = .leaf := hnx
        subst en
        exact ⟨A, B, rfl, (rf_gt_up hxu hn).1 _ hty, rfl⟩
    · rw [rf_wh_snoc]
      have hw2 : (rf_wh n).2 = (rf_wh n).1 := by
        cases n with
        | leaf => exact hty.elim
        | inner nj nk nu nf nn =>
          have en : nn = .leaf := hnx
          subst en
          exact Nat.max_zero _
      rw [hw2]
      omega
    · rw [rf_oc_snoc, ← a10 m]
      constructor
      · rintro (z | z)
        · exact z
        · cases n with
          | leaf => exact z.elim
          | inner nj nk nu nf nn =>
            have en : nn = .leaf := hnx
            subst en
            rcases z with z | z
            · exact absurd z (hoc m)
            · exact z.elim
      · exact Or.inl
  · exact absurd b1 hk
end RFJ2
end
section
/-! ===== the reference: a long form at its end ===== -/
theorem rf_xu_new {s t : sx_S} (hF : cx_F [(66, 66), (106, 106)] s t) (hf : rf_f [58] s t) (h58 : t.1 66 58 = s.1 66 58 + 1) (ha : rf_ag 106 106 (s.1 66 58) s t) : rf_xu s t := by
  refine ⟨fun j => ⟨Int.le_of_eq (hf 9 rfl).symm, fun _ => ⟨by rw [(hF.same 72 rfl).2], by rw [(hF.same 73 rfl).2]⟩⟩, fun j => ⟨⟨by omega, Int.le_of_eq (hf 56 rfl).symm, Int.le_of_eq (hf 50 rfl).symm, hf 42 rfl, hf 45 rfl⟩, fun hj => ha 106 j (by omega) (by omega) hj, fun _ => by rw [(hF.same 105 rfl).2], fun _ => by rw [(hF.same 104 rfl).2], by rw [(hF.same 96 rfl).2], by rw [(hF.same 123 rfl).2]⟩⟩
theorem rf_xu_make {s t : sx_S} (hF : cx_F [(66, 66), (100, 103)] s t) (hf : rf_f [50] s t) (h50 : t.1 66 50 = s.1 66 50 + 1) : rf_xu s t := by
  refine ⟨fun j => ⟨Int.le_of_eq (hf 9 rfl).symm, fun _ => ⟨by rw [(hF.same 72 rfl).2], by rw [(hF.same 73 rfl).2]⟩⟩, fun j => ⟨⟨Int.le_of_eq (hf 58 rfl).symm, Int.le_of_eq (hf 56 rfl).symm, by omega, hf 42 rfl, hf 45 rfl⟩, fun _ => by rw [(hF.same 106 rfl).2], fun _ => by rw [(hF.same 105 rfl).2], fun _ => by rw [(hF.same 104 rfl).2], by rw [(hF.same 96 rfl).2], by rw [(hF.same 123 rfl).2]⟩⟩
def rf_made (lo : Int) (x : rf_T) (t : sx_S) (z : Int) (P : rf_N → Prop) : Prop := ∃ n : rf_N, rf_no t n z ∧ (rf_idx n).Nodup ∧ (∀ j ∈ rf_idx n, lo ≤ (j : Int)) ∧ rf_nx n ∧ (rf_gt (rf_H t) rf_P n).1 x ∧ P n
/-- G asks no less of what stands in less -/
def rf_mo (G : Nat → Int → List Int → Prop) : Prop := ∀ (j : Nat) (r : Int) (Γ Γ' : List Int), (∀ v ∈ Γ, v ∈ Γ') → G j r Γ → G j r Γ'
def rf_PC (i0 : Int) (k : Int × Int) (f0 : rf_N) (x : rf_T) (vs : List Int) (x1 : Int) (t : sx_S) (n : rf_N) : Prop := ((∀ us v, (k.1 = 2 → k.2 < i0) → ((rf_lf2 n).1 us v ↔ k.1 = 2 ∧ k.2 = v ∧ v ∉ us ∧ (rf_lf2 f0).2 us)) ∧ (∀ G Γ, rf_mo G → (k.1 = 2 → k.2 ∈ Γ) → (k.1 = 3 → (∀ v ∈ vs, v ∈ Γ) ∧ ∀ Γ' : List Int, (∀ v ∈ rf_rv t x1, v ∈ Γ') → G x1.toNat k.2 Γ') → (rf_sc G f0).2 Γ → (rf_sc G n).1 Γ) ∧ (k.1 = 3 → rf_mp t x1.toNat k.2 .leaf (t.1 66 56) ∧ (vs.Nodup → (∀ v ∈ vs, v < i0) → (rf_rv t x1).Nodup))) ∧ ((k.1 ≠ 3 → (rf_wh n).1 + 1 ≤ 2 * rf_at x + (rf_wh f0).2) ∧ (k.1 = 3 → (rf_wh n).1 ≤ rf_at x + 4)) ∧ ∀ m, (rf_oc n).1 m ↔ (k.1 = 3 ∧ m = k.2) ∨ (k.1 ≠ 3 ∧ (rf_oc f0).2 m)
section RFJ3
variable {x1 : Int} {k : Int × Int} {f0 : rf_N} {x : rf_T} {u t : sx_S} {x3 x4 : Int} {i0 ib : Int} {vs : List Int}
/-- the head with all that it wants is of basic type; its height; its unknowns -/
theorem rf_J_head {f : rf_N} (a8 : ((k.1 = 1 ∨ k.1 = 2) ∧ ∃ w, rf_H u x1.toNat k.1 k.2 w ∧ (rf_gt (rf_H u) rf_P f).2 w .leaf) ∨ (k.1 = 3 ∧ f = .leaf ∧ rf_mp u x1.toNat k.2 .leaf (u.1 66 56))) (a10 : ∀ m, (rf_oc f).2 m ↔ (rf_oc f0).2 m) : (rf_gt (rf_H u) rf_P (.inner x1.toNat k () f .leaf)).1 .leaf ∧ ((k.1 ≠ 3 → (rf_wh (.inner x1.toNat k () f .leaf)).1 = 1 + (rf_wh f).2) ∧ (k.1 = 3 → (rf_wh (.inner x1.toNat k () f .leaf)).1 = 5)) ∧ ∀ m, (rf_oc (.inner x1.toNat k () f .leaf)).1 m ↔ (k.1 = 3 ∧ m = k.2) ∨ (k.1 ≠ 3 ∧ (rf_oc f0).2 m) := by
  rcases a8 with ⟨b1, w, b2, b3⟩ | ⟨b1, b2, b3⟩
  · refine ⟨Or.inr ⟨by omega, w, b2, b3, rfl⟩, ⟨fun _ => rf_wh_2 b1, fun h => by omega⟩, fun m => ?_⟩
    rw [← a10 m]
    constructor
    · rintro (⟨h, _⟩ | ⟨h, _⟩ | ⟨_, h⟩)
      · omega
      · omega
      · exact Or.inr ⟨by omega, h⟩
    · rintro (⟨h, _⟩ | ⟨_, h⟩)
      · omega
      · exact Or.inr (Or.inr ⟨b1, h⟩)
  · refine ⟨Or.inr ⟨by omega, .leaf, Or.inr (Or.inr (Or.inr ⟨b1, rfl, _, b3⟩)), by rw [b2]; rfl, rfl⟩, ⟨fun h => absurd b1 h, fun _ => ?_⟩, fun m => ?_⟩
    · show (if k.1 = 3 then 5 else _) = 5
      rw [if_pos b1]
    · constructor
      · rintro (h | ⟨h, _⟩ | ⟨h, _⟩)
        · exact Or.inl h
        · omega
        · omega
      · rintro (h | ⟨h, _⟩)
        · exact Or.inl h
        · exact absurd b1 h
theorem rf_J_end {f : rf_N} {C : List (Nat × Int)} (a8 : ((k.1 = 1 ∨ k.1 = 2) ∧ ∃ w, rf_H u x1.toNat k.1 k.2 w ∧ (rf_gt (rf_H u) rf_P f).2 w .leaf) ∨ (k.1 = 3 ∧ f = .leaf ∧ rf_mp u x1.toNat k.2 .leaf (u.1 66 56))) (a11 : (k.1 ≠ 3 → ∃ us g, C.map Prod.snd = us ++ [] ∧ f = rf_snoc f0 g ∧ (rf_lf2 g).2 us ∧ (rf_sc rf_G0 g).2 us) ∧ (∀ c ∈ C.map Prod.snd, i0 ≤ c ∧ c < ib) ∧ (C.map Prod.snd).Nodup ∧ (k.1 = 3 → rf_rv u x1 ++ [] = vs ++ C.map Prod.snd)) : (∀ us v, (k.1 = 2 → k.2 < i0) → ((rf_lf2 (rf_ch C (.inner x1.toNat k () f .leaf))).1 us v ↔ k.1 = 2 ∧ k.2 = v ∧ v ∉ us ∧ (rf_lf2 f0).2 us)) ∧ (∀ G Γ, rf_mo G → (k.1 = 2 → k.2 ∈ Γ) → (k.1 = 3 → (∀ v ∈ vs, v ∈ Γ) ∧ ∀ Γ' : List Int, (∀ v ∈ rf_rv u x1, v ∈ Γ') → G x1.toNat k.2 Γ') → (rf_sc G f0).2 Γ → (rf_sc G (rf_ch C (.inner x1.toNat k () f .leaf))).1 Γ) ∧ (k.1 = 3 → rf_mp u x1.toNat k.2 .leaf (u.1 66 56) ∧ (vs.Nodup → (∀ v ∈ vs, v < i0) → (rf_rv u x1).Nodup)) := by
  have hk0 : k.1 ≠ 0 := by
    rcases a8 with ⟨q | q, _⟩ | ⟨q, _⟩
    · omega
    · omega
    · omega
  refine ⟨fun us v hi => ?_, fun G Γ hG h2 h3 hf => ?_, fun q1 => ⟨?_, fun q2 q3 => ?_⟩⟩
  · rw [rf_ch_lf_iff]
    constructor
    · rintro (⟨q, _⟩ | ⟨q1, q2, q3, q4⟩)
      · exact absurd q hk0
      · obtain ⟨ws, g, e1, e2, e3, _⟩ := a11.1 (by omega)
        rw [List.append_nil] at e1
        rw [e2, e1] at q4
        exact ⟨q1, q2, fun z => q3 (List.mem_append_left _ z), (rf_lf2_app e3).mp q4⟩
    · rintro ⟨q1, q2, q3, q4⟩
      obtain ⟨ws, g, e1, e2, e3, _⟩ := a11.1 (by omega)
      rw [List.append_nil] at e1
      refine Or.inr ⟨q1, q2, fun z => ?_, ?_⟩
      · rcases List.mem_append.mp z with z | z
        · exact q3 z
        · have := (a11.2.1 _ z).1
          have := hi q1
          omega
      · rw [e2, e1]
        exact (rf_lf2_app e3).mpr q4
  · refine rf_sc_ch (b := (.inner x1.toNat k () f .leaf)) (D := C.map Prod.snd ++ Γ) (fun j _ r Γ1 Γ2 => hG j r Γ1 Γ2) (Or.inr ⟨hk0, fun q => List.mem_append_right _ (h2 q), fun q => ?_, ?_⟩) (fun v hv => List.mem_append.mp hv)
    · refine (h3 q).2 _ (fun v hv => ?_)
      have e := a11.2.2.2 q
      rw [List.append_nil] at e
      rw [e] at hv
      rcases List.mem_append.mp hv with hv | hv
      · exact List.mem_append_right _ ((h3 q).1 v hv)
      · exact List.mem_append_left _ hv
    · rcases a8 with ⟨b1, _⟩ | ⟨_, b2, _⟩
      · obtain ⟨ws, g, e1, e2, e3, e4⟩ := a11.1 (by omega)
        rw [List.append_nil] at e1
        rw [e2]
        exact rf_sc_snoc ((rf_sc_mono (fun j _ r Γ1 Γ2 => hG j r Γ1 Γ2)).2 _ _ (fun v hv => List.mem_append_right _ hv) hf) ((rf_sc_mono (fun _ _ _ _ _ _ q => q.elim)).2 _ _ (fun v hv => List.mem_append_left _ (by rw [e1]; exact hv)) e4)
      · rw [b2]
        exact trivial
  · rcases a8 with ⟨b1, _⟩ | ⟨_, _, b3⟩
    · omega
    · exact b3
  · have e := a11.2.2.2 q1
    rw [List.append_nil] at e
    rw [e]
    refine List.nodup_append.mpr ⟨q2, a11.2.2.1, fun a ha b hb z => ?_⟩
    have := q3 a ha
    have := (a11.2.1 b hb).1
    omega
theorem rf_J_end1 (h : rf_J x1 k f0 x u (-1) x4 .leaf .leaf i0 [] vs ib) : rf_made x1 x u x1 (rf_PC i0 k f0 x vs x1 u) := by
  obtain ⟨C, f, a1, a2, a3, a4, a5, a6, a7, a8, a9, a10, a11⟩ := h
  have hC : C = [] := by
    rcases a4 with ⟨q, _⟩ | ⟨_, q, _⟩
    · exact q
    · cases C with
      | nil => rfl
      | cons c l =>
        have := q.1.1
        omega
  subst hC
  have ex : x = .leaf := a7
  obtain ⟨h1, ⟨h2, h2'⟩, h3⟩ := rf_J_head a8 a10
  have e1 : rf_at (.leaf : rf_T) = 1 := rfl
  simp only [List.length_nil] at a9
  have h4 := rf_J_end (C := []) a8 a11
  refine ⟨_, a1, a2, a3, rfl, by rw [ex]; exact h1, h4, ⟨fun q => ?_, fun q => ?_⟩, h3⟩
  · rw [h2 q]
    omega
  · rw [h2' q]
    have := rf_at_pos x
    omega
theorem rf_J_end2 {Bs : (Nat → Nat → Int) × Nat} (h : rf_J x1 k f0 x u x3 x4 .leaf .leaf i0 [] vs ib) (h3 : x3 ≠ -1) (h1' : 0 ≤ x1) : rf_made x1 x (u.1, sx_ua u.2.1 102 x4.toNat x1, Bs) x3 (rf_PC i0 k f0 x vs x1 (u.1, sx_ua u.2.1 102 x4.toNat x1, Bs)) := by
  obtain ⟨C, f, a1, a2, a3, a4, a5, a6, a7, a8, a9, a10, a11⟩ := h
  rcases a4 with ⟨_, q⟩ | ⟨c1, c2, c3⟩
  · exact absurd q h3
  obtain ⟨h1, ⟨h2, h2'⟩, h4⟩ := rf_J_head a8 a10
  have e1 : rf_at (.leaf : rf_T) = 1 := rfl
  have hl := rf_ct_len a7
  have hlast := rf_cl_mem (d := 0) c1
  have e4 : x4.toNat = rf_cl C 0 := by omega
  have q100 : (sx_ua u.2.1 102 x4.toNat x1) 100 = u.2.1 100 := sx_ua_ne (by decide)
  have q101 : (sx_ua u.2.1 102 x4.toNat x1) 101 = u.2.1 101 := sx_ua_ne (by decide)
  have q103 : (sx_ua u.2.1 102 x4.toNat x1) 103 = u.2.1 103 := sx_ua_ne (by decide)
  have q102 : (sx_ua u.2.1 102 x4.toNat x1) 102 = fun j => if j = x4.toNat then x1 else u.2.1 102 j := sx_ua_same _ _ _ _
  have hxu : rf_xu u (u.1, sx_ua u.2.1 102 x4.toNat x1, Bs) := rf_xu_arr rfl (fun q hq => sx_ua_ne (by rcases hq with rfl | rfl | rfl | rfl | rfl | rfl | rfl <;> decide))
  have hhd : rf_nd (u.2.1 100) (u.2.1 101) ((sx_ua u.2.1 102 x4.toNat x1) 102) (u.2.1 103) (u.1 66 50) (.inner x1.toNat k () f .leaf) x1 := by
    refine rf_nd_mono (Int.le_refl _) (fun j hj => ⟨rfl, rfl, ?_, rfl⟩) a1
    rw [q102]
    show (if j = x4.toNat then x1 else u.2.1 102 j) = _
    rw [if_neg (fun q => (a6 _ hlast).1 (by rw [← e4, ← q]; exact hj))]
  have hch := rf_ch_set (F' := (sx_ua u.2.1 102 x4.toNat x1) 102) hhd (d := 0) c1 a5 (fun j hj => by
    rw [q102]
    show (if j = x4.toNat then x1 else u.2.1 102 j) = _
    rw [if_neg (by rw [e4]; exact hj)]) (by
    rw [q102]
    show (if rf_cl C 0 = x4.toNat then x1 else _) = _
    rw [if_pos e4.symm]) c2
  have hno : rf_no (u.1, sx_ua u.2.1 102 x4.toNat x1, Bs) (rf_ch C (.inner x1.toNat k () f .leaf)) x3 := by
    unfold rf_no
    dsimp only
    rw [q100, q101, q103]
    exact hch
  refine ⟨rf_ch C (.inner x1.toNat k () f .leaf), hno, rf_ch_nodup a2 a5 (fun j hj => (a6 j hj).1), fun j hj => ?_, ?_, (rf_ct_gt (rf_ct_up hxu a7) ((rf_gt_up hxu a1).1 _ h1)), ?_, ⟨fun q => ?_, fun q => ?_⟩, fun m => ?_⟩
  · rcases rf_ch_idx.mp hj with q | q
    · exact (a6 j q).2.1
    · exact a3 j q
  · cases C with
    | nil => exact absurd rfl c1
    | cons c l => rfl
  · have hlt := rf_nd_lt a1 x1.toNat List.mem_cons_self
    have h := rf_J_end a8 a11
    refine ⟨h.1, ?_, fun q => ⟨rf_mp_up hxu hlt (h.2.2 q).1, ?_⟩⟩
    · rw [rf_rv_102]
      exact h.2.1
    · rw [rf_rv_102]
      exact (h.2.2 q).2
  · rw [rf_ch_wh, h2 q]
    omega
  · rw [rf_ch_wh, h2' q]
    omega
  · rw [rf_ch_oc]
    exact h4 m
end RFJ3
end
section
/-! ===== the reference: close, longVar ===== -/
theorem w_longVar {CALL : sx_Ca} {sL : Nat} {sx : Nat → Int32} {Q : Nat → sx_L → sx_S → Prop} {R : Int → sx_S → Prop} (h_make : ∀ (a0 a1 : Int) (s : sx_S) (K : Int → sx_S → Prop), cx_I s → (0 ≤ a0 ∧ a0 ≤ 3) → (-2147483648 ≤ a1 ∧ a1 ≤ 2147483647) → (s.1 66 50 ≤ 59999) → (∀ (z : Int) (t : sx_S), cx_I t → cx_F [(66, 66), (100, 103)] s t → (z = s.1 66 50) → (t.1 66 50 = s.1 66 50 + 1) → (rf_f [50] s t) → (rf_ag 100 103 (s.1 66 50) s t) → (rf_mk t z a0 a1) → K z t) → CALL 178 [.inr (.inl 66), .inl a0, .inl a1] s K) {s : sx_S} {v : Int} {PC : Int → sx_S → Prop} (hI : cx_I s) (q : 0 ≤ v ∧ v ≤ 399999) (h50 : s.1 66 50 ≤ 59999) (hC : ∀ (z1 u1 : Int) (t1 : sx_S), cx_I t1 → cx_F [(66, 66), (100, 103)] s t1 → z1 = s.1 66 50 → t1.1 66 50 = s.1 66 50 + 1 → rf_f [50] s t1 → rf_ag 100 103 (s.1 66 50) s t1 → rf_mk t1 z1 2 v → u1 = t1.2.1 106 v.toNat → ∀ K : Int → sx_S → Prop, (∀ z t, PC z t → K z t) → CALL 180 [.inr (.inl 66), .inl z1, .inl u1] t1 K) (hK : ∀ z t, PC z t → R z t) : sx_wp true sL sx eX12_longVar CALL [] Q R 400 0 (sx_argsF 0 [.inr (.inl 66), .inl v]) [] s := by
  repeat' (first | (with_reducible intro _) | (refine And.intro ?_ ?_) | (refine hK _ _ ?_) | (refine hC _ _ _ (by assumption) (by assumption) (by assumption) (by assumption) (by assumption) (by assumption) (by assumption) ?_ _ ?_) | (refine h_make _ _ _ _ ?_ ?_ ?_ ?_ ?_))
  all_goals (try dsimp only)
  all_goals (first | trivial | assumption | omega | (dsimp only at *; omega))
theorem rf_lv {sL : Nat} {sx : Nat → Int32} (hsL : sL ≤ 3072) {N d : Nat} (hd : 1 ≤ d) (hc : ∀ (x : rf_T) (x1 a1 : Int) (k : Int × Int) (f0 : rf_N) (s : sx_S) (K : Int → sx_S → Prop), rf_at x ≤ N → cx_I s → (0 ≤ x1 ∧ x1 ≤ 59999) → rf_is s x a1 → rf_at x ≤ 5 → (2 ≤ s.1 66 9 ∧ s.1 66 9 ≤ 6000) → s.1 66 50 + 2 * (rf_at x : Int) ≤ 59999 → s.1 66 58 + (rf_at x : Int) ≤ 399999 → s.1 66 56 + 5 ≤ 119990 → rf_no s (.inner x1.toNat k () f0 .leaf) x1 → (rf_idx (.inner x1.toNat k () f0 .leaf)).Nodup → (∀ j ∈ rf_idx (.inner x1.toNat k () f0 .leaf), x1 ≤ (j : Int)) → (((k.1 = 1 ∨ k.1 = 2) ∧ ∃ w, rf_H s x1.toNat k.1 k.2 w ∧ (rf_gt (rf_H s) rf_P f0).2 w x) ∨ (k.1 = 3 ∧ f0 = .leaf ∧ rf_mp s x1.toNat k.2 x (s.1 66 56))) → (∀ (z : Int) (t : sx_S), cx_I t → cx_F [(66, 66), (100, 103), (105, 106)] s t → rf_f [50, 56, 58] s t → rf_xu s t → rf_ag 100 103 x1 s t → (t.1 66 50 + 2 ≤ s.1 66 50 + 2 * (rf_at x : Int) ∧ t.1 66 58 + 1 ≤ s.1 66 58 + (rf_at x : Int) ∧ t.1 66 56 + 1 ≤ s.1 66 56 + (rf_at x : Int) ∧ (k.1 ≠ 3 → t.1 66 56 = s.1 66 56)) → rf_made x1 x t z (rf_PC (s.1 66 58) k f0 x (rf_rv s x1) x1 t) → K z t) → sx_C sL sx (d + 1) 180 [.inr (.inl 66), .inl x1, .inl a1] s K) : ∀ (A : rf_T) (v : Int) (s : sx_S) (K : Int → sx_S → Prop), rf_at A ≤ N → cx_I s → rf_vt s v A → rf_at A ≤ 5 → (2 ≤ s.1 66 9 ∧ s.1 66 9 ≤ 6000) → s.1 66 50 + 2 * (rf_at A : Int) ≤ 59998 → s.1 66 58 + (rf_at A : Int) ≤ 399999 → s.1 66 56 + 5 ≤ 119990 → (∀ (z : Int) (t : sx_S), cx_I t → cx_F [(66, 66), (100, 103), (105, 106)] s t → rf_f [50, 56, 58] s t → rf_xu s t → rf_ag 100 103 (s.1 66 50) s t → (t.1 66 50 + 1 ≤ s.1 66 50 + 2 * (rf_at A : Int) ∧ t.1 66 58 + 1 ≤ s.1 66 58 + (rf_at A : Int) ∧ t.1 66 56 = s.1 66 56) → rf_made (s.1 66 50) A t z (fun n => (rf_wh n).1 + 1 ≤ 2 * rf_at A ∧ (∀ m, ¬ (rf_oc n).1 m) ∧ rf_lf n v ∧ (rf_sc rf_G0 n).1 [v]) → K z t) → sx_C sL sx (d + 2) 181 [.inr (.inl 66), .inl v] s K := by
  intro A v s K hN hI hv h5 h9 h50 h58 h56 hK
  have hA := rf_at_pos A
  have r50 := hI.fld 66 50 (by decide) rfl
  have r58 := hI.fld 66 58 (by decide) rfl
  refine sx_meth (wr := true) (n := 400) hsL (e := eX12_longVar) rfl (w_longVar (Q := fun _ _ _ => False) (PC := K) (c_r_make hsL (d + 1) (by omega)) hI ⟨hv.1.1, by have := hv.1.2; omega⟩ (by omega) ?_ (fun _ _ h => h))
  intro z1 u1 t1 m1 m2 m3 m4 m5 m6 m7 hu K' hK'
  have hx := rf_xu_make m2 m5 m4
  obtain ⟨g1, g2, g3, g4⟩ := m7 trivial
  have hvt := rf_vt_up hx hv
  have e9 := m5 9 rfl
  have e58 := m5 58 rfl
  have e56 := m5 56 rfl
  refine hc A z1 u1 (2, v) .leaf t1 K' hN m1 (by omega) (by rw [hu]; exact hvt.2) h5 (by omega) (by omega) (by omega) (by omega) ⟨⟨by omega, by omega⟩, ⟨g1, g2⟩, g3, g4⟩ (by simp [rf_idx]) (fun j hj => by simp [rf_idx] at hj; omega) (Or.inl ⟨Or.inr rfl, A, Or.inr (Or.inr (Or.inl ⟨rfl, hvt⟩)), rfl⟩) (fun z t p1 p2 p3 p4 p5 p6 p7 => hK' z t (hK z t p1 (cx_F_step p2 rfl (cx_F_step m2 rfl (cx_F_refl _ _))) (rf_f_step p3 rfl (rf_f_step m5 rfl (rf_f_refl _ _))) (rf_xu_trans p4 hx) (rf_ag_trans p5 (by omega) m6) ?_ ?_))
  · have := p6.2.2.2 (by show (2 : Int) ≠ 3; decide)
    omega
  · obtain ⟨n, n1, n2, n3, n4, n5, ⟨nlf, nsc, _⟩, n6, n7⟩ := p7
    have hlf := (nlf [] v (fun _ => hvt.1.2)).mpr ⟨rfl, rfl, List.not_mem_nil, rfl⟩
    have hsc := nsc rf_G0 [v] (fun _ _ _ _ _ q => q.elim) (fun _ => List.mem_cons_self) (fun q => absurd (show (2 : Int) = 3 from q) (by decide)) trivial
    have hw := n6.1 (by show (2 : Int) ≠ 3; decide)
    refine ⟨n, n1, n2, fun j hj => by have := n3 j hj; omega, n4, n5, hw, fun m hm => ?_, hlf, hsc⟩
    rcases (n7 m).mp hm with ⟨q, _⟩ | ⟨_, q⟩
    · exact absurd (show (2 : Int) = 3 from q) (by decide)
    · exact q

theorem rf_nd_inj {K R F X : Nat → Int} {N N' : Int} : ∀ {a b : rf_N} {i : Int}, rf_nd K R F X N a i → rf_nd K R F X N' b i → a = b
  | .leaf, .leaf, _, _, _ => rfl
  | .leaf, .inner _ _ _ _ _, i, h, g => by
    have h' : i = -1 := h
    have := g.1.1
    omega
  | .inner _ _ _ _ _, .leaf, i, h, g => by
    have g' : i = -1 := g
    have := h.1.1
    omega
  | .inner j (k1, k2) _ f x, .inner j' (l1, l2) _ f' x', i, h, g => by
    obtain ⟨⟨h1, _⟩, ⟨h2, h3⟩, h4, h5⟩ := h
    obtain ⟨⟨g1, _⟩, ⟨g2, g3⟩, g4, g5⟩ := g
    have e : j = j' := by omega
    subst e
    have e1 : k1 = l1 := h2.symm.trans g2
    have e2 : k2 = l2 := h3.symm.trans g3
    rw [rf_nd_inj h4 g4, rf_nd_inj h5 g5, e1, e2]
theorem rf_J_bnd {x1 : Int} {k : Int × Int} {f0 : rf_N} {x : rf_T} {u : sx_S} {x3 x4 : Int} {y ye : rf_T} {i0 ib : Int} {pe vs : List Int} (h : rf_J x1 k f0 x u x3 x4 y ye i0 pe vs ib) : x1 < u.1 66 50 ∧ -1 ≤ x3 ∧ x3 < u.1 66 50 ∧ (x3 ≠ -1 → 0 ≤ x4 ∧ x4 < u.1 66 50 ∧ x1 ≤ x4) ∧ u.2.1 100 x1.toNat = k.1 ∧ (∀ t : sx_S, rf_ag 100 103 (u.1 66 50) u t → u.1 66 50 ≤ t.1 66 50 → ∀ j : Nat, u.1 66 50 ≤ (j : Int) → (∀ f, rf_no t (.inner x1.toNat k () f .leaf) x1 → j ∉ rf_idx (.inner x1.toNat k () f .leaf)) ∧ (∀ C : List (Nat × Int), x3 ≠ -1 → rf_no t (rf_ch C .leaf) x3 → j ∉ C.map Prod.fst)) := by
  obtain ⟨C, f, a1, a2, a3, a4, a5, a6, a7, a8, a9, a10⟩ := h
  have hlt := rf_nd_lt a1 x1.toNat List.mem_cons_self
  have e0 := a1.1.1
  have ek := a1.2.1.1
  have hb : -1 ≤ x3 ∧ x3 < u.1 66 50 := by
    rcases a4 with ⟨_, q⟩ | ⟨_, q, _⟩
    · omega
    · have := rf_nd_rng q
      omega
  refine ⟨by omega, hb.1, hb.2, fun h3 => ?_, ek, fun t ha hn j hj => ⟨fun f' hf' hm => ?_, fun C' h3 hC' hm => ?_⟩⟩
  · rcases a4 with ⟨_, q⟩ | ⟨c1, _, c3⟩
    · exact absurd q h3
    · have := (a6 _ (rf_cl_mem (d := 0) c1)).2
      omega
  · have e := rf_nd_inj hf' (rf_no_up ha hn a1)
    rw [e] at hm
    have := rf_nd_lt a1 j hm
    omega
  · rcases a4 with ⟨_, q⟩ | ⟨c1, c2, c3⟩
    · exact absurd q h3
    · have e := rf_nd_inj hC' (rf_no_up ha hn c2)
      have hm2 : j ∈ rf_idx (rf_ch C' .leaf) := rf_ch_idx.mpr (Or.inl hm)
      rw [e] at hm2
      have := rf_nd_lt c2 j hm2
      omega
theorem rf_cl_ok {sL : Nat} {sx : Nat → Int32} (hsL : sL ≤ 3072) {N d : Nat} (hd : 1 ≤ d) (hlv : ∀ (A : rf_T) (v : Int) (s : sx_S) (K : Int → sx_S → Prop), rf_at A ≤ N → cx_I s → rf_vt s v A → rf_at A ≤ 5 → (2 ≤ s.1 66 9 ∧ s.1 66 9 ≤ 6000) → s.1 66 50 + 2 * (rf_at A : Int) ≤ 59998 → s.1 66 58 + (rf_at A : Int) ≤ 399999 → s.1 66 56 + 5 ≤ 119990 → (∀ (z : Int) (t : sx_S), cx_I t → cx_F [(66, 66), (100, 103), (105, 106)] s t → rf_f [50, 56, 58] s t → rf_xu s t → rf_ag 100 103 (s.1 66 50) s t → (t.1 66 50 + 1 ≤ s.1 66 50 + 2 * (rf_at A : Int) ∧ t.1 66 58 + 1 ≤ s.1 66 58 + (rf_at A : Int) ∧ t.1 66 56 = s.1 66 56) → rf_made (s.1 66 50) A t z (fun n => (rf_wh n).1 + 1 ≤ 2 * rf_at A ∧ (∀ m, ¬ (rf_oc n).1 m) ∧ rf_lf n v ∧ (rf_sc rf_G0 n).1 [v]) → K z t) → sx_C sL sx (d + 1) 181 [.inr (.inl 66), .inl v] s K) : ∀ (x : rf_T) (x1 a1 : Int) (k : Int × Int) (f0 : rf_N) (s : sx_S) (K : Int → sx_S → Prop), rf_at x ≤ (N + 1) → cx_I s → (0 ≤ x1 ∧ x1 ≤ 59999) → rf_is s x a1 → rf_at x ≤ 5 → (2 ≤ s.1 66 9 ∧ s.1 66 9 ≤ 6000) → s.1 66 50 + 2 * (rf_at x : Int) ≤ 59999 → s.1 66 58 + (rf_at x : Int) ≤ 399999 → s.1 66 56 + 5 ≤ 119990 → rf_no s (.inner x1.toNat k () f0 .leaf) x1 → (rf_idx (.inner x1.toNat k () f0 .leaf)).Nodup → (∀ j ∈ rf_idx (.inner x1.toNat k () f0 .leaf), x1 ≤ (j : Int)) → (((k.1 = 1 ∨ k.1 = 2) ∧ ∃ w, rf_H s x1.toNat k.1 k.2 w ∧ (rf_gt (rf_H s) rf_P f0).2 w x) ∨ (k.1 = 3 ∧ f0 = .leaf ∧ rf_mp s x1.toNat k.2 x (s.1 66 56))) → (∀ (z : Int) (t : sx_S), cx_I t → cx_F [(66, 66), (100, 103), (105, 106)] s t → rf_f [50, 56, 58] s t → rf_xu s t → rf_ag 100 103 x1 s t → (t.1 66 50 + 2 ≤ s.1 66 50 + 2 * (rf_at x : Int) ∧ t.1 66 58 + 1 ≤ s.1 66 58 + (rf_at x : Int) ∧ t.1 66 56 + 1 ≤ s.1 66 56 + (rf_at x : Int) ∧ (k.1 ≠ 3 → t.1 66 56 = s.1 66 56)) → rf_made x1 x t z (rf_PC (s.1 66 58) k f0 x (rf_rv s x1) x1 t) → K z t) → sx_C sL sx (d + 2) 180 [.inr (.inl 66), .inl x1, .inl a1] s K := by
  intro x x1 a1 k f0 s K hN hI p1 hx h5 h9 h50 h58 h56 hno hnd hlo hty hK
  have hx0 := rf_at_pos x
  refine sx_methL (wr := true) (n := 400) (n' := 400) (stop := [(8, [0, 1, 3, 4, 5]), (60, [0, 1, 3, 4, 5, 6]), (105, [0, 1, 3, 4, 5])]) (fun n pc ls u => (pc = 8 ∧ ∃ (x3 x4 x5 : Int) (y : rf_T), ls = [(0, .inr (.inl 66)), (1, .inl x1), (3, .inl x3), (4, .inl x4), (5, .inl x5)] ∧ (cx_I u ∧ cx_F [(66, 66), (100, 103), (105, 106)] s u ∧ rf_f [50, 56, 58] s u ∧ rf_xu s u ∧ rf_ag 100 103 x1 s u) ∧ rf_is u y x5 ∧ (u.1 66 50 + 2 * (rf_at y : Int) ≤ s.1 66 50 + 2 * (rf_at x : Int) ∧ u.1 66 58 + (rf_at y : Int) ≤ s.1 66 58 + (rf_at x : Int) ∧ u.1 66 56 + (rf_at y : Int) ≤ s.1 66 56 + (rf_at x : Int) ∧ (k.1 ≠ 3 → u.1 66 56 = s.1 66 56)) ∧ rf_J x1 k f0 x u x3 x4 y y (s.1 66 58) [] (rf_rv s x1) (u.1 66 58) ∧ n = 10 * rf_at y + 5) ∨ (pc = 60 ∧ ∃ (x3 x4 x5 x6 : Int) (A B : rf_T), ls = [(0, .inr (.inl 66)), (1, .inl x1), (3, .inl x3), (4, .inl x4), (5, .inl x5), (6, .inl x6)] ∧ (cx_I u ∧ cx_F [(66, 66), (100, 103), (105, 106)] s u ∧ rf_f [50, 56, 58] s u ∧ rf_xu s u ∧ rf_ag 100 103 x1 s u) ∧ rf_is u (rf_a A B) x5 ∧ (u.1 66 50 + 2 * (rf_at A : Int) + 2 * (rf_at B : Int) ≤ s.1 66 50 + 2 * (rf_at x : Int) + 1 ∧ u.1 66 58 + (rf_at A : Int) + (rf_at B : Int) ≤ s.1 66 58 + (rf_at x : Int) + 1 ∧ u.1 66 56 + (rf_at A : Int) + (rf_at B : Int) ≤ s.1 66 56 + (rf_at x : Int) ∧ (k.1 ≠ 3 → u.1 66 56 = s.1 66 56)) ∧ rf_J x1 k f0 x u x3 x4 B (rf_a A B) (s.1 66 58) [x6] (rf_rv s x1) (u.1 66 58) ∧ x3 ≠ -1 ∧ rf_vt u x6 A ∧ n = 10 * (rf_at A + rf_at B) + 3) ∨ (pc = 105 ∧ ∃ (x3 x4 x5 : Int) (A B : rf_T), ls = [(0, .inr (.inl 66)), (1, .inl x1), (3, .inl x3), (4, .inl x4), (5, .inl x5)] ∧ (cx_I u ∧ cx_F [(66, 66), (100, 103), (105, 106)] s u ∧ rf_f [50, 56, 58] s u ∧ rf_xu s u ∧ rf_ag 100 103 x1 s u) ∧ rf_is u (rf_a A B) x5 ∧ (u.1 66 50 + 2 * (rf_at B : Int) ≤ s.1 66 50 + 2 * (rf_at x : Int) ∧ u.1 66 58 + (rf_at B : Int) ≤ s.1 66 58 + (rf_at x : Int) ∧ u.1 66 56 + (rf_at B : Int) ≤ s.1 66 56 + (rf_at x : Int) ∧ (k.1 ≠ 3 → u.1 66 56 = s.1 66 56)) ∧ rf_J x1 k f0 x u x3 x4 B B (s.1 66 58) [] (rf_rv s x1) (u.1 66 58) ∧ n = 10 * (rf_at A + rf_at B) + 1)) hsL (e := eX12_close) rfl ?_ ?_
  · refine w_close hI ⟨_, Or.inl ⟨rfl, -1, -1, a1, x, rfl, ⟨hI, cx_F_refl _ _, rf_f_refl _ _, rf_xu_refl _, rf_ag_refl _ _ _ _⟩, hx, ⟨by omega, by omega, by omega, fun _ => rfl⟩, ⟨[], f0, hno, hnd, hlo, Or.inl ⟨rfl, rfl⟩, List.nodup_nil, fun j hj => absurd hj List.not_mem_nil, rfl, hty, ⟨by simp only [List.length_nil]; omega, by simp only [List.length_nil]; omega⟩, fun _ => Iff.rfl, ⟨fun _ => ⟨[], .leaf, rfl, (rf_snoc_leaf f0).symm, rfl, trivial⟩, fun c hc => absurd hc List.not_mem_nil, List.nodup_nil, fun _ => rfl⟩⟩, rfl⟩⟩
  · rintro n pc ls u (⟨rfl, x3, x4, x5, y, rfl, ⟨g1, g2, g3, g4, g5⟩, hy, hc, hJ, rfl⟩ | ⟨rfl, x3, x4, x5, x6, A, B, rfl, ⟨g1, g2, g3, g4, g5⟩, hy, hc, hJ, h3, hv, rfl⟩ | ⟨rfl, x3, x4, x5, A, B, rfl, ⟨g1, g2, g3, g4, g5⟩, hy, hc, hJ, rfl⟩)
    · have e9 := g3 9 rfl
      have y0 := rf_ty_lo hy
      have y1 := rf_ty_hi (by omega) hy
      have hyp := rf_at_pos y
      obtain ⟨b1, b2, b3, b4, b5, b6⟩ := rf_J_bnd hJ
      have r50 := g1.fld 66 50 (by decide) rfl
      have r58 := g1.fld 66 58 (by decide) rfl
      refine w_close_8 (c_r_newVarF hsL (d + 1) (by omega)) (c_r_make hsL (d + 1) (by omega)) g1 p1 (by omega) (fun h => by have := b4 h; omega) ⟨y0, by omega⟩ (by omega) (by omega) ?_ ?_ ?_ ?_
      · intro q5 q3
        have ey : y = .leaf := rf_ty_b hy (by omega)
        subst ey q3
        have e1 : rf_at (.leaf : rf_T) = 1 := rfl
        rw [e1] at hc
        exact hK x1 u g1 g2 g3 g4 g5 ⟨by omega, by omega, by omega, hc.2.2.2⟩ (rf_J_end1 hJ)
      · intro q5 q3
        have ey : y = .leaf := rf_ty_b hy (by omega)
        subst ey
        have e1 : rf_at (.leaf : rf_T) = 1 := rfl
        rw [e1] at hc
        have q4 := b4 q3
        have hx3 : rf_xu u (u.1, sx_ua u.2.1 102 x4.toNat x1, u.2.2) := rf_xu_arr (s := u) rfl (fun q hq => sx_ua_ne (by rcases hq with rfl | rfl | rfl | rfl | rfl | rfl | rfl <;> decide))
        refine hK x3 _ (cx_I_ua rfl rfl (F := u.1) (A := u.2.1) (B := u.2.2) g1 (by omega) (by omega)) (cx_F_ua rfl (F := u.1) (A := u.2.1) (B := u.2.2) g2) g3 (rf_xu_trans hx3 g4) (rf_ag_ua (F := u.1) (A := u.2.1) (B := u.2.2) q4.2.2 q4.1 g5) ⟨by dsimp only; omega, by dsimp only; omega, by dsimp only; omega, hc.2.2.2⟩ (rf_J_end2 hJ q3 p1.1)
      · intro q5 q3 z6 z7 t1 t2 m1 m2 m3 m4 m5 m6 m7 n1 n2 n3 n4 n5 n6 n7 n8
        obtain ⟨A, B, ey, hA, hB⟩ := rf_ty_a hy (by omega)
        subst ey q3
        have hx1 := rf_xu_new n1 n5 n4 n6
        have hx2 := rf_xu_make m1 m5 m4
        have pA := rf_at_pos A
        have pB := rf_at_pos B
        have eAB : rf_at (rf_a A B) = rf_at A + rf_at B := rfl
        rw [eAB] at hc
        have e56 : t1.1 66 56 = u.1 66 56 := n5 56 rfl
        have e56' : t2.1 66 56 = t1.1 66 56 := m5 56 rfl
        have e58' : t2.1 66 58 = t1.1 66 58 := m5 58 rfl
        have ag1 : rf_ag 100 103 (u.1 66 50) u t1 := rf_ag_F n1 rfl (rf_ag_refl _ _ _ _)
        have ag2 : rf_ag 100 103 (u.1 66 50) u t2 := rf_ag_trans m6 (by omega) ag1
        have hJ2 := rf_J_up (rf_J_up hJ ag1 hx1 e56) (by rw [n7] at m6 ⊢; exact m6) hx2 e56'
        have hvt : rf_vt t2 z6 A := rf_vt_up hx2 ⟨⟨by omega, by omega⟩, by rw [n8]; exact rf_is_up hA hx1.1⟩
        refine ⟨_, ?_, Or.inr (Or.inl ⟨rfl, z7, z7, x5, z6, A, B, rfl, ⟨m2, cx_F_step m1 rfl (cx_F_step n1 rfl g2), rf_f_step m5 rfl (rf_f_step n5 rfl g3), rf_xu_trans hx2 (rf_xu_trans hx1 g4), rf_ag_trans ag2 (by omega) g5⟩, rf_is_up (rf_is_up hy hx1.1) hx2.1, ⟨by omega, by omega, by omega, fun q => by have := hc.2.2.2 q; omega⟩, rf_J_ib (rf_J_lam1 hJ2 (by have := (g4.2 0).1.1; omega) (by omega) ⟨by omega, by omega⟩ m7 hvt (by omega) (fun f hf => (b6 t2 ag2 (by omega) z7.toNat (by omega)).1 f hf)) (by omega), by omega, hvt, rfl⟩)⟩
        omega
      · intro q5 q3 z6 z7 t1 t2 m1 m2 m3 m4 m5 m6 m7 n1 n2 n3 n4 n5 n6 n7 n8
        obtain ⟨A, B, ey, hA, hB⟩ := rf_ty_a hy (by omega)
        subst ey
        have q4 := b4 q3
        have hx1 := rf_xu_new n1 n5 n4 n6
        have hx2 := rf_xu_make m1 m5 m4
        have pA := rf_at_pos A
        have pB := rf_at_pos B
        have eAB : rf_at (rf_a A B) = rf_at A + rf_at B := rfl
        rw [eAB] at hc
        have e56 : t1.1 66 56 = u.1 66 56 := n5 56 rfl
        have e56' : t2.1 66 56 = t1.1 66 56 := m5 56 rfl
        have e58' : t2.1 66 58 = t1.1 66 58 := m5 58 rfl
        have ag1 : rf_ag 100 103 (u.1 66 50) u t1 := rf_ag_F n1 rfl (rf_ag_refl _ _ _ _)
        have ag2 : rf_ag 100 103 (u.1 66 50) u t2 := rf_ag_trans m6 (by omega) ag1
        have hJ2 := rf_J_up (rf_J_up hJ ag1 hx1 e56) (by rw [n7] at m6 ⊢; exact m6) hx2 e56'
        have hvt : rf_vt t2 z6 A := rf_vt_up hx2 ⟨⟨by omega, by omega⟩, by rw [n8]; exact rf_is_up hA hx1.1⟩
        have hx3 : rf_xu t2 (t2.1, sx_ua t2.2.1 102 x4.toNat z7, t2.2.2) := rf_xu_arr rfl (fun q hq => sx_ua_ne (by rcases hq with rfl | rfl | rfl | rfl | rfl | rfl | rfl <;> decide))
        have fr := b6 t2 ag2 (by omega) z7.toNat (by omega)
        refine ⟨_, ?_, Or.inr (Or.inl ⟨rfl, x3, z7, x5, z6, A, B, rfl, ⟨cx_I_ua rfl rfl (F := t2.1) (A := t2.2.1) (B := t2.2.2) m2 (by omega) (by omega), cx_F_ua rfl (F := t2.1) (A := t2.2.1) (B := t2.2.2) (cx_F_step m1 rfl (cx_F_step n1 rfl g2)), rf_f_step m5 rfl (rf_f_step n5 rfl g3), rf_xu_trans hx3 (rf_xu_trans hx2 (rf_xu_trans hx1 g4)), rf_ag_ua (F := t2.1) (A := t2.2.1) (B := t2.2.2) q4.2.2 q4.1 (rf_ag_trans ag2 (by omega) g5)⟩, rf_is_up (rf_is_up (rf_is_up hy hx1.1) hx2.1) hx3.1, ⟨by dsimp only; omega, by dsimp only; omega, by dsimp only; omega, fun q => by have := hc.2.2.2 q; dsimp only; omega⟩, rf_J_ib (rf_J_lam2 hJ2 (by have := (g4.2 0).1.1; omega) (by omega) q3 ⟨by omega, by omega⟩ m7 hvt (by omega) (fun _ _ _ _ => Or.inr trivial) (fun f hf => fr.1 f hf) (fun C hC => fr.2 C q3 hC) hx3) (by dsimp only; omega), q3, rf_vt_up hx3 hvt, rfl⟩)⟩
        omega
    · have e9 := g3 9 rfl
      have pA := rf_at_pos A
      have pB := rf_at_pos B
      obtain ⟨b1, b2, b3, b4, b5, b6⟩ := rf_J_bnd hJ
      have r50 := g1.fld 66 50 (by decide) rfl
      have r56 := g1.fld 66 56 (by decide) rfl
      have r58 := g1.fld 66 58 (by decide) rfl
      have hAt : rf_at A ≤ N ∧ rf_at A ≤ 5 := by
        obtain ⟨C, f, _, _, _, a4, _, _, _, _, a9, _⟩ := hJ
        have eAB : rf_at (rf_a A B) = rf_at A + rf_at B := rfl
        rw [eAB] at a9
        have hC1 : 1 ≤ C.length := by
          rcases a4 with ⟨_, z⟩ | ⟨z, _⟩
          · exact absurd z h3
          · cases C with
            | nil => exact absurd rfl z
            | cons c l => exact Nat.succ_pos _
        omega
      have hxx := rf_at_pos x
      refine w_close_60 (PL := fun p t => cx_I t ∧ cx_F [(66, 66), (100, 103), (105, 106)] u t ∧ rf_f [50, 56, 58] u t ∧ rf_xu u t ∧ rf_ag 100 103 (u.1 66 50) u t ∧ (t.1 66 50 + 1 ≤ u.1 66 50 + 2 * (rf_at A : Int) ∧ t.1 66 58 + 1 ≤ u.1 66 58 + (rf_at A : Int) ∧ t.1 66 56 = u.1 66 56) ∧ rf_made (u.1 66 50) A t p (fun n => (rf_wh n).1 + 1 ≤ 2 * rf_at A ∧ (∀ m, ¬ (rf_oc n).1 m) ∧ rf_lf n x6 ∧ (rf_sc rf_G0 n).1 [x6]) ∧ k.1 ≠ 3) (PA := fun t => (cx_I t ∧ cx_F [(66, 66), (100, 103), (105, 106)] s t ∧ rf_f [50, 56, 58] s t ∧ rf_xu s t ∧ rf_ag 100 103 x1 s t) ∧ rf_is t (rf_a A B) x5 ∧ (t.1 66 50 + 2 * (rf_at B : Int) ≤ s.1 66 50 + 2 * (rf_at x : Int) ∧ t.1 66 58 + (rf_at B : Int) ≤ s.1 66 58 + (rf_at x : Int) ∧ t.1 66 56 + (rf_at B : Int) ≤ s.1 66 56 + (rf_at x : Int) ∧ (k.1 ≠ 3 → t.1 66 56 = s.1 66 56)) ∧ rf_J x1 k f0 x t x3 x4 B B (s.1 66 58) [] (rf_rv s x1) (t.1 66 58)) g1 p1 ⟨hv.1.1, by have := hv.1.2; omega⟩ (by omega) ?_ ?_ ?_ ?_
      · intro hk w n hw hn
        rw [b5] at hk
        have hxv := rf_xu_var (B := u.2.2) (v := x6) hw hn (by omega)
        have e50 : sx_uf u.1 66 56 w 66 50 = u.1 66 50 := by
          rw [sx_uf_if]
          exact if_neg (fun c => by cases c.2)
        have e58 : sx_uf u.1 66 56 w 66 58 = u.1 66 58 := by
          rw [sx_uf_if]
          exact if_neg (fun c => by cases c.2)
        have e56 : sx_uf u.1 66 56 w 66 56 = w := by
          rw [sx_uf_if]
          exact if_pos ⟨rfl, rfl⟩
        have hx6 := hv.1
        refine ⟨_, ?_, Or.inr (Or.inr ⟨rfl, x3, x4, x5, A, B, rfl, ⟨cx_I_uf rfl rfl (cx_I_ua rfl rfl (F := u.1) (A := u.2.1) (B := u.2.2) g1 (by omega) (by omega)) (by omega) (by omega), cx_F_uf rfl (cx_F_ua rfl (F := u.1) (A := u.2.1) (B := u.2.2) g2), rf_f_uf rfl (rf_f_ua (F := u.1) (A := u.2.1) (B := u.2.2) g3), rf_xu_trans hxv g4, rf_ag_uf (rf_ag_uo rfl (F := u.1) (A := u.2.1) (B := u.2.2) g5)⟩, rf_is_up hy hxv.1, ⟨by dsimp only; rw [e50]; omega, by dsimp only; rw [e58]; omega, by dsimp only; rw [e56]; omega, fun q => absurd hk q⟩, rf_J_ib (rf_J_met hJ hk hw hn (by omega) hv) (by dsimp only; rw [e58]; exact Int.le_refl _), rfl⟩)⟩
        omega
      · intro hk K' hK'
        rw [b5] at hk
        have hc4 := hc.2.2.2 hk
        refine hlv A x6 u K' hAt.1 g1 hv hAt.2 (by omega) (by omega) (by omega) (by omega) (fun z t q1 q2 q3 q4 q5 q6 q7 => hK' z t ⟨q1, q2, q3, q4, q5, q6, q7, hk⟩)
      · rintro p t ⟨q1, q2, q3, q4, q5, q6, ⟨nn, n1, n2, n3, n4, n5, n6, n7, n8⟩, hk⟩ K' hK'
        have hJ' := hJ
        obtain ⟨C, f, a1, a2, a3, a4, a5, a6, a7, a8, a9, a10⟩ := hJ'
        have hnn := (q4.2 0).1.2.2.1
        have b1' := rf_no_up q5 hnn a1
        have hp := rf_nd_rng n1
        have hp1 : p ≠ -1 := fun e => by
          have := rf_nd_nil n1 e
          subst this
          exact n5.elim
        have rt50 := q1.fld 66 50 (by decide) rfl
        have fin : ∀ t' : sx_S, t'.1 = t.1 → ((f = .leaf ∧ t'.2.1 = sx_ua t.2.1 102 x1.toNat p) ∨ (f ≠ .leaf ∧ t'.2.1 = sx_ua t.2.1 103 (rf_last f 0) p)) → rf_J x1 k f0 x t' x3 x4 B B (s.1 66 58) [] (rf_rv s x1) (t'.1 66 58) := fun t' e1 e2 => rf_J_ib (rf_J_app hJ n8.1 n8.2 h3 hk q5 q4 n1 n2 n3 n4 n5 n6 n7 e1 (fun f' hf' => by
          have e := rf_nd_inj hf' b1'
          injection e with _ _ _ ef _
          subst ef
          exact e2)) (by rw [e1]; exact (q4.2 0).1.1)
        have hc4 := hc.2.2.2 hk
        have hxa : ∀ p' l' : Nat, (p' = 102 ∨ p' = 103) → rf_xu t (t.1, sx_ua t.2.1 p' l' p, t.2.2) := fun p' l' hp' => rf_xu_arr (s := t) rfl (fun q hq => sx_ua_ne (by omega))
        have fls : ∀ j ∈ rf_idx f, x1 ≤ (j : Int) := fun j hj => a3 j (List.mem_cons_of_mem _ (List.mem_append_left _ hj))
        refine c_r_append hsL (d + 1) (by omega) x1 p f t K' q1 p1 (by omega) b1'.2.2.1 (fun hl => hK' _ _ ⟨⟨cx_I_ua rfl rfl (F := t.1) (A := t.2.1) (B := t.2.2) q1 (by omega) (by omega), cx_F_ua rfl (F := t.1) (A := t.2.1) (B := t.2.2) (cx_F_step q2 rfl g2), rf_f_step q3 rfl g3, ?_, rf_ag_ua (F := t.1) (A := t.2.1) (B := t.2.2) (Int.le_refl _) p1.1 (rf_ag_trans q5 (by omega) g5)⟩, ?_, ⟨by dsimp only; omega, by dsimp only; omega, by dsimp only; omega, fun _ => by dsimp only; omega⟩, fin _ rfl (Or.inl ⟨hl, rfl⟩)⟩) (fun l hl el => hK' _ _ ⟨⟨cx_I_ua rfl rfl (F := t.1) (A := t.2.1) (B := t.2.2) q1 (by omega) (by omega), cx_F_ua rfl (F := t.1) (A := t.2.1) (B := t.2.2) (cx_F_step q2 rfl g2), rf_f_step q3 rfl g3, ?_, ?_⟩, ?_, ⟨by dsimp only; omega, by dsimp only; omega, by dsimp only; omega, fun _ => by dsimp only; omega⟩, fin _ rfl (Or.inr ⟨hl, by rw [el]⟩)⟩)
        · exact rf_xu_trans (hxa 102 x1.toNat (Or.inl rfl)) (rf_xu_trans q4 g4)
        · exact rf_is_up (rf_is_up hy q4.1) (hxa 102 x1.toNat (Or.inl rfl)).1
        · exact rf_xu_trans (hxa 103 l (Or.inr rfl)) (rf_xu_trans q4 g4)
        · have hlm := fls l (by rw [el]; exact rf_last_mem f 0 hl)
          have hq := rf_ag_ua (p := 103) (k := (l : Int)) (v := p) (F := t.1) (A := t.2.1) (B := t.2.2) hlm (by omega) (rf_ag_trans q5 (by omega) g5)
          exact hq
        · exact rf_is_up (rf_is_up hy q4.1) (hxa 103 l (Or.inr rfl)).1
      · rintro t' ⟨f1, f2, f3, f4⟩
        refine ⟨_, ?_, Or.inr (Or.inr ⟨rfl, x3, x4, x5, A, B, rfl, f1, f2, f3, f4, rfl⟩)⟩
        omega
    · have e9 := g3 9 rfl
      have y0 := rf_ty_lo hy
      have y1 := rf_ty_hi (by omega) hy
      refine w_close_105 g1 ⟨y0, by omega⟩ (fun v hv => ⟨_, ?_, Or.inl ⟨rfl, x3, x4, v, B, rfl, ⟨g1, g2, g3, g4, g5⟩, ?_, hc, hJ, rfl⟩⟩)
      · have := rf_at_pos A
        omega
      · rw [hv]
        exact hy.2.2

theorem c_r_clv {sL : Nat} {sx : Nat → Int32} (hsL : sL ≤ 3072) : ∀ N d : Nat, 2 * N + 4 ≤ d → (∀ (x : rf_T) (x1 a1 : Int) (k : Int × Int) (f0 : rf_N) (s : sx_S) (K : Int → sx_S → Prop), rf_at x ≤ N → cx_I s → (0 ≤ x1 ∧ x1 ≤ 59999) → rf_is s x a1 → rf_at x ≤ 5 → (2 ≤ s.1 66 9 ∧ s.1 66 9 ≤ 6000) → s.1 66 50 + 2 * (rf_at x : Int) ≤ 59999 → s.1 66 58 + (rf_at x : Int) ≤ 399999 → s.1 66 56 + 5 ≤ 119990 → rf_no s (.inner x1.toNat k () f0 .leaf) x1 → (rf_idx (.inner x1.toNat k () f0 .leaf)).Nodup → (∀ j ∈ rf_idx (.inner x1.toNat k () f0 .leaf), x1 ≤ (j : Int)) → (((k.1 = 1 ∨ k.1 = 2) ∧ ∃ w, rf_H s x1.toNat k.1 k.2 w ∧ (rf_gt (rf_H s) rf_P f0).2 w x) ∨ (k.1 = 3 ∧ f0 = .leaf ∧ rf_mp s x1.toNat k.2 x (s.1 66 56))) → (∀ (z : Int) (t : sx_S), cx_I t → cx_F [(66, 66), (100, 103), (105, 106)] s t → rf_f [50, 56, 58] s t → rf_xu s t → rf_ag 100 103 x1 s t → (t.1 66 50 + 2 ≤ s.1 66 50 + 2 * (rf_at x : Int) ∧ t.1 66 58 + 1 ≤ s.1 66 58 + (rf_at x : Int) ∧ t.1 66 56 + 1 ≤ s.1 66 56 + (rf_at x : Int) ∧ (k.1 ≠ 3 → t.1 66 56 = s.1 66 56)) → rf_made x1 x t z (rf_PC (s.1 66 58) k f0 x (rf_rv s x1) x1 t) → K z t) → sx_C sL sx d 180 [.inr (.inl 66), .inl x1, .inl a1] s K) ∧ (∀ (A : rf_T) (v : Int) (s : sx_S) (K : Int → sx_S → Prop), rf_at A ≤ N → cx_I s → rf_vt s v A → rf_at A ≤ 5 → (2 ≤ s.1 66 9 ∧ s.1 66 9 ≤ 6000) → s.1 66 50 + 2 * (rf_at A : Int) ≤ 59998 → s.1 66 58 + (rf_at A : Int) ≤ 399999 → s.1 66 56 + 5 ≤ 119990 → (∀ (z : Int) (t : sx_S), cx_I t → cx_F [(66, 66), (100, 103), (105, 106)] s t → rf_f [50, 56, 58] s t → rf_xu s t → rf_ag 100 103 (s.1 66 50) s t → (t.1 66 50 + 1 ≤ s.1 66 50 + 2 * (rf_at A : Int) ∧ t.1 66 58 + 1 ≤ s.1 66 58 + (rf_at A : Int) ∧ t.1 66 56 = s.1 66 56) → rf_made (s.1 66 50) A t z (fun n => (rf_wh n).1 + 1 ≤ 2 * rf_at A ∧ (∀ m, ¬ (rf_oc n).1 m) ∧ rf_lf n v ∧ (rf_sc rf_G0 n).1 [v]) → K z t) → sx_C sL sx (d + 1) 181 [.inr (.inl 66), .inl v] s K) := by
  intro N
  induction N with
  | zero =>
    intro d hd
    refine ⟨fun x x1 a1 k f0 s K hN => ?_, fun A v s K hN => ?_⟩
    · have := rf_at_pos x
      omega
    · have := rf_at_pos A
      omega
  | succ N ih =>
    intro d hd
    have key : ∀ e, 2 * (N + 1) + 4 ≤ e → ∀ (x : rf_T) (x1 a1 : Int) (k : Int × Int) (f0 : rf_N) (s : sx_S) (K : Int → sx_S → Prop), rf_at x ≤ (N + 1) → cx_I s → (0 ≤ x1 ∧ x1 ≤ 59999) → rf_is s x a1 → rf_at x ≤ 5 → (2 ≤ s.1 66 9 ∧ s.1 66 9 ≤ 6000) → s.1 66 50 + 2 * (rf_at x : Int) ≤ 59999 → s.1 66 58 + (rf_at x : Int) ≤ 399999 → s.1 66 56 + 5 ≤ 119990 → rf_no s (.inner x1.toNat k () f0 .leaf) x1 → (rf_idx (.inner x1.toNat k () f0 .leaf)).Nodup → (∀ j ∈ rf_idx (.inner x1.toNat k () f0 .leaf), x1 ≤ (j : Int)) → (((k.1 = 1 ∨ k.1 = 2) ∧ ∃ w, rf_H s x1.toNat k.1 k.2 w ∧ (rf_gt (rf_H s) rf_P f0).2 w x) ∨ (k.1 = 3 ∧ f0 = .leaf ∧ rf_mp s x1.toNat k.2 x (s.1 66 56))) → (∀ (z : Int) (t : sx_S), cx_I t → cx_F [(66, 66), (100, 103), (105, 106)] s t → rf_f [50, 56, 58] s t → rf_xu s t → rf_ag 100 103 x1 s t → (t.1 66 50 + 2 ≤ s.1 66 50 + 2 * (rf_at x : Int) ∧ t.1 66 58 + 1 ≤ s.1 66 58 + (rf_at x : Int) ∧ t.1 66 56 + 1 ≤ s.1 66 56 + (rf_at x : Int) ∧ (k.1 ≠ 3 → t.1 66 56 = s.1 66 56)) → rf_made x1 x t z (rf_PC (s.1 66 58) k f0 x (rf_rv s x1) x1 t) → K z t) → sx_C sL sx e 180 [.inr (.inl 66), .inl x1, .inl a1] s K := fun e he => by
      obtain ⟨q, rfl⟩ : ∃ q, e = q + 2 := ⟨e - 2, by omega⟩
      exact rf_cl_ok hsL (by omega) (ih q (by omega)).2
    refine ⟨key d hd, ?_⟩
    obtain ⟨q, rfl⟩ : ∃ q, d = q + 1 := ⟨d - 1, by omega⟩
    exact rf_lv hsL (by omega) (key (q + 1) hd)
end
section
/-! ===== the reference: declarations ===== -/
theorem rf_t5_eq {s t : sx_S} (h9 : t.1 66 9 = s.1 66 9) (h72 : t.2.1 72 = s.2.1 72) (h73 : t.2.1 73 = s.2.1 73) {z : Int} (h : rf_t5 s z) : rf_t5 t z := by
  obtain ⟨x, h1, h2⟩ := h
  refine ⟨x, ?_, h2⟩
  unfold rf_is at h1 ⊢
  rw [h9, h72, h73]
  exact h1
theorem rf_CK_eq {s t : sx_S} (hf : t.1 66 9 = s.1 66 9 ∧ t.1 66 34 = s.1 66 34 ∧ t.1 66 42 = s.1 66 42 ∧ t.1 66 45 = s.1 66 45 ∧ t.1 66 58 = s.1 66 58) (ha : ∀ p, (p = 72 ∨ p = 73 ∨ p = 94 ∨ p = 96 ∨ p = 106 ∨ p = 123) → t.2.1 p = s.2.1 p) (h : rf_CK s) : rf_CK t := by
  obtain ⟨f1, f2, f3, f4, f5⟩ := hf
  intro k
  obtain ⟨h1, h2, h3⟩ := h k
  have e := fun {z : Int} (q : rf_t5 s z) => rf_t5_eq f1 (ha 72 (by decide)) (ha 73 (by decide)) q
  rw [f2, f3, f4, f5, ha 94 (by decide), ha 96 (by decide), ha 106 (by decide), ha 123 (by decide)]
  exact ⟨fun q => e (h1 q), fun q => e (h2 q), fun q => ⟨(h3 q).1, e (h3 q).2⟩⟩
theorem rf_CK_F {V : List (Nat × Nat)} {W : List Nat} {s t : sx_S} (hF : cx_F V s t) (hV : (cx_outb V 72 && cx_outb V 73 && cx_outb V 94 && cx_outb V 96 && cx_outb V 106 && cx_outb V 123) = true) (hf : rf_f W s t) (hW : (W.contains 9 || W.contains 34 || W.contains 42 || W.contains 45 || W.contains 58) = false) (h : rf_CK s) : rf_CK t := by
  simp only [Bool.and_eq_true] at hV
  simp only [Bool.or_eq_false_iff] at hW
  refine rf_CK_eq ⟨hf 9 hW.1.1.1.1, hf 34 hW.1.1.1.2, hf 42 hW.1.1.2, hf 45 hW.1.2, hf 58 hW.2⟩ (fun p hp => ?_) h
  rcases hp with rfl | rfl | rfl | rfl | rfl | rfl
  · exact (hF.same 72 hV.1.1.1.1.1).2
  · exact (hF.same 73 hV.1.1.1.1.2).2
  · exact (hF.same 94 hV.1.1.1.2).2
  · exact (hF.same 96 hV.1.1.2).2
  · exact (hF.same 106 hV.1.2).2
  · exact (hF.same 123 hV.2).2
theorem rf_ty1_F {V : List (Nat × Nat)} {W : List Nat} {s t : sx_S} {k : Nat} (hF : cx_F V s t) (hV : (cx_outb V 72 && cx_outb V 73 && cx_outb V 87 && cx_outb V 89) = true) (hf : rf_f W s t) (hW : W.contains 9 = false) (h : rf_ty1 s k) : rf_ty1 t k := by
  simp only [Bool.and_eq_true] at hV
  obtain ⟨x, h1, h2⟩ := h
  refine ⟨x, ?_, ?_⟩
  · unfold rf_is at h1 ⊢
    rw [(hF.same 72 hV.1.1.1).2, (hF.same 73 hV.1.1.2).2, (hF.same 87 hV.1.2).2, hf 9 hW]
    exact h1
  · rw [(hF.same 89 hV.2).2]
    exact h2
theorem rf_ty1_5 {s : sx_S} {k : Nat} (h : rf_ty1 s k) (h5 : s.2.1 89 k ≤ 5) : rf_t5 s (s.2.1 87 k) := by
  obtain ⟨x, h1, h2⟩ := h
  exact ⟨x, h1, by omega⟩
theorem rf_CK_con {s : sx_S} {B : (Nat → Nat → Int) × Nat} {w n1 n2 a v : Int} (h : rf_CK s) (hw : w = s.1 66 42 + 1) (hn : n2 = s.1 66 42) (h0 : 0 ≤ n2) (hv : rf_t5 s v) : rf_CK (sx_uf s.1 66 42 w, sx_ua (sx_ua s.2.1 95 n1.toNat a) 96 n2.toNat v, B) := by
  have e : ∀ q, q ≠ 42 → sx_uf s.1 66 42 w 66 q = s.1 66 q := fun q hq => by
    rw [sx_uf_if]
    exact if_neg (fun c => hq c.2)
  have e42 : sx_uf s.1 66 42 w 66 42 = w := by
    rw [sx_uf_if]
    exact if_pos ⟨rfl, rfl⟩
  have a' : ∀ q, q ≠ 95 → q ≠ 96 → (sx_ua (sx_ua s.2.1 95 n1.toNat a) 96 n2.toNat v) q = s.2.1 q := fun q h1 h2 => by
    rw [sx_ua_ne h2, sx_ua_ne h1]
  have up : ∀ z, rf_t5 s z → rf_t5 (sx_uf s.1 66 42 w, sx_ua (sx_ua s.2.1 95 n1.toNat a) 96 n2.toNat v, B) z := fun z q => rf_t5_eq (e 9 (by decide)) (a' 72 (by decide) (by decide)) (a' 73 (by decide) (by decide)) q
  intro k
  obtain ⟨h1, h2, h3⟩ := h k
  dsimp only
  rw [e42, e 45 (by decide), e 34 (by decide), e 58 (by decide), a' 123 (by decide) (by decide), a' 94 (by decide) (by decide), a' 106 (by decide) (by decide)]
  refine ⟨fun q => ?_, fun q => up _ (h2 q), fun q => ⟨(h3 q).1, up _ (h3 q).2⟩⟩
  rw [sx_ua_same, sx_ua_ne (by decide)]
  dsimp only
  split
  · exact up _ hv
  · exact up _ (h1 (by omega))
theorem rf_CK_met {s : sx_S} {B : (Nat → Nat → Int) × Nat} {w n1 n2 a v : Int} (h : rf_CK s) (hw : w = s.1 66 45 + 1) (hn : n2 = s.1 66 45) (h0 : 0 ≤ n2) (hv : rf_t5 s v) : rf_CK (sx_uf s.1 66 45 w, sx_ua (sx_ua s.2.1 97 n1.toNat a) 123 n2.toNat v, B) := by
  have e : ∀ q, q ≠ 45 → sx_uf s.1 66 45 w 66 q = s.1 66 q := fun q hq => by
    rw [sx_uf_if]
    exact if_neg (fun c => hq c.2)
  have e45 : sx_uf s.1 66 45 w 66 45 = w := by
    rw [sx_uf_if]
    exact if_pos ⟨rfl, rfl⟩
  have a' : ∀ q, q ≠ 97 → q ≠ 123 → (sx_ua (sx_ua s.2.1 97 n1.toNat a) 123 n2.toNat v) q = s.2.1 q := fun q h1 h2 => by
    rw [sx_ua_ne h2, sx_ua_ne h1]
  have up : ∀ z, rf_t5 s z → rf_t5 (sx_uf s.1 66 45 w, sx_ua (sx_ua s.2.1 97 n1.toNat a) 123 n2.toNat v, B) z := fun z q => rf_t5_eq (e 9 (by decide)) (a' 72 (by decide) (by decide)) (a' 73 (by decide) (by decide)) q
  intro k
  obtain ⟨h1, h2, h3⟩ := h k
  dsimp only
  rw [e45, e 42 (by decide), e 34 (by decide), e 58 (by decide), a' 96 (by decide) (by decide), a' 94 (by decide) (by decide), a' 106 (by decide) (by decide)]
  refine ⟨fun q => up _ (h1 q), fun q => ?_, fun q => ⟨(h3 q).1, up _ (h3 q).2⟩⟩
  rw [sx_ua_same, sx_ua_ne (by decide)]
  dsimp only
  split
  · exact up _ hv
  · exact up _ (h2 (by omega))

theorem c_r_wrongF {sL : Nat} {sx : Nat → Int32} (hsL : sL ≤ 3072) (d : Nat) (hd : 2 ≤ d) : ∀ (a0 a1 : Int) (s : sx_S) (K : Int → sx_S → Prop), cx_I s → (1 ≤ a0 ∧ a0 ≤ 6) → (0 ≤ a1 ∧ a1 ≤ 241) → (∀ (z : Int) (t : sx_S), cx_I t → cx_F [(66, 66)] s t → (rf_f [40, 41] s t) → (t.1 66 40 ≠ 0) → ((s.1 66 40 ≠ 0 ∧ t.1 66 40 = s.1 66 40 ∧ t.1 66 41 = s.1 66 41) ∨ (s.1 66 40 = 0 ∧ t.1 66 40 = a0 ∧ t.1 66 41 = a1)) → (t.1 66 42 = s.1 66 42) → (t.1 66 45 = s.1 66 45) → K z t) → sx_C sL sx d 165 [.inr (.inl 66), .inl a0, .inl a1] s K := by
  intro a0 a1 s K hI p0 p1 hK
  exact c_r_wrong hsL d hd _ _ _ _ hI p0 p1 (fun z t hJ hF q0 q1 q2 => hK z t hJ hF q0 q1 q2 (q0 42 rfl) (q0 45 rfl))
end
section
/-! ===== the reference: what was read and checked, as trees with their meaning ===== -/
def rf_rk (s : sx_S) (j : Nat) : Int := if s.2.1 74 j = 0 then 0 else if s.2.1 83 j = 0 then 9 else s.2.1 83 j
/-- the tree at i, each node with its sort and with what it means -/
def rf_ym (s : sx_S) (n : rf_N) (i : Int) : Prop := rf_nd (rf_rk s) (s.2.1 82) (s.2.1 80) (s.2.1 81) (s.1 66 12) n i
def rf_RH (s : sx_S) (_ : Nat) (k r : Int) (u : rf_T) : Prop := rf_at u ≤ 5 ∧ ((k = 0 ∧ rf_vt s r u) ∨ (k = 1 ∧ (0 ≤ r ∧ r < s.1 66 42) ∧ rf_is s u (s.2.1 96 r.toNat)) ∨ (k = 2 ∧ rf_vt s r u) ∨ (k = 3 ∧ (0 ≤ r ∧ r < s.1 66 45) ∧ rf_is s u (s.2.1 123 r.toNat)))
def rf_RP (s : sx_S) (j : Nat) (t : rf_T) : Prop := rf_is s t (s.2.1 84 j)
/-- every unknown stands before distinct variables -/
def rf_gd : rf_N → Prop × Prop
  | .leaf => (True, True)
  | .inner _ k _ f x => ((k.1 = 0 ∧ (rf_gd f).1) ∨ (k.1 ≠ 0 ∧ (rf_gd f).2 ∧ (k.1 = 3 → ∃ vs, (rf_lf2 f).2 vs ∧ vs.Nodup)), ((k.1 = 0 ∧ (rf_gd f).1) ∨ (k.1 ≠ 0 ∧ (rf_gd f).2 ∧ (k.1 = 3 → ∃ vs, (rf_lf2 f).2 vs ∧ vs.Nodup))) ∧ (rf_gd x).2)
def rf_G1 : Nat → Int → List Int → Prop := fun _ _ _ => True
/-- the variables of a node's unknown are distinct and in scope -/
def rf_G (s : sx_S) (j : Nat) (r : Int) (Γ : List Int) : Prop := ∃ x : rf_T, rf_is s x (s.2.1 123 r.toNat) ∧ (0 ≤ s.2.1 104 j ∧ s.2.1 104 j + ((rf_args x).length : Int) ≤ s.1 66 56) ∧ (rf_rl s (s.2.1 104 j) (rf_args x).length).Nodup ∧ ∀ v ∈ rf_rl s (s.2.1 104 j) (rf_args x).length, v ∈ Γ
theorem rf_G_mo (s : sx_S) : rf_mo (rf_G s) := fun _ _ _ _ h ⟨x, h1, h2, h3, h4⟩ => ⟨x, h1, h2, h3, fun v hv => h v (h4 v hv)⟩
def rf_s1 : rf_N → Nat
  | .leaf => 0
  | .inner _ _ _ f _ => 1 + (rf_idx f).length
theorem rf_s1_idx {j : Nat} {k : Int × Int} {u : Unit} {f x : rf_N} : (rf_idx (.inner j k u f x)).length = rf_s1 (.inner j k u f x) + (rf_idx x).length := by
  show (j :: (rf_idx f ++ rf_idx x)).length = 1 + (rf_idx f).length + _
  rw [List.length_cons, List.length_append]
  omega
theorem rf_G_up {s t : sx_S} (h : rf_xu s t) {j : Nat} (hj : (j : Int) < s.1 66 50) {r : Int} {Γ : List Int} (g : rf_G s j r Γ) : rf_G t j r Γ := by
  obtain ⟨x, h1, ⟨h2, h2'⟩, h3, h4⟩ := g
  have e104 := (h.2 j).2.2.2.1 hj
  have e123 := (h.2 r.toNat).2.2.2.2.2
  have e56 := (h.2 0).1.2.1
  have er : rf_rl t (s.2.1 104 j) (rf_args x).length = rf_rl s (s.2.1 104 j) (rf_args x).length := rf_rl_eq (fun q hq => (h.2 _).2.2.1 (by omega))
  refine ⟨x, by rw [e123]; exact rf_is_up h1 h.1, by rw [e104]; omega, ?_, ?_⟩
  · rw [e104, er]
    exact h3
  · rw [e104, er]
    exact h4
theorem rf_sc_up {s t : sx_S} (h : rf_xu s t) {n : rf_N} {i : Int} (hn : rf_no s n i) : (∀ Γ, (rf_sc (rf_G s) n).1 Γ → (rf_sc (rf_G t) n).1 Γ) ∧ (∀ Γ, (rf_sc (rf_G s) n).2 Γ → (rf_sc (rf_G t) n).2 Γ) := by
  have := rf_sc_mono (n := n) (G := rf_G s) (G' := rf_G t) (fun j hj r Γ Γ' hs g => rf_G_mo t j r Γ Γ' hs (rf_G_up h (rf_nd_lt hn j hj) g))
  exact ⟨fun Γ => this.1 Γ Γ (fun _ q => q), fun Γ => this.2 Γ Γ (fun _ q => q)⟩
theorem rf_rp_len {s : sx_S} : ∀ {x : rf_T} {i e : Int}, rf_rp s .leaf x i e → e = i + ((rf_args x).length : Int)
  | .leaf, i, e, h => by
    have := h.2
    show e = i + ((0 : Nat) : Int)
    omega
  | .inner n u v A B, i, e, h => by
    rcases h with ⟨h, _⟩ | ⟨_, h⟩
    · cases h
    · have := rf_rp_len h
      show e = i + (((rf_args B).length + 1 : Nat) : Int)
      omega
theorem rf_gt_at {H : Nat → Int → Int → rf_T → Prop} {P : Nat → rf_T → Prop} : ∀ {n : rf_N} {u t : rf_T}, (rf_gt H P n).2 u t → rf_at t ≤ rf_at u
  | .leaf, u, t, h => by
    have e : u = t := h
    rw [e]
    exact Nat.le_refl _
  | .inner j k _ f x, u, t, ⟨A, B, h1, _, h3⟩ => by
    have := rf_gt_at h3
    have := rf_at_pos A
    rw [h1]
    show _ ≤ rf_at A + rf_at B
    omega
/-- these variables take the type x to the type y -/
def rf_vw (s : sx_S) : List Int → rf_T → rf_T → Prop
  | [], x, y => x = y
  | v :: l, x, y => ∃ A B, x = rf_a A B ∧ rf_vt s v A ∧ rf_vw s l B y
theorem rf_vw_up {s t : sx_S} (h : rf_xu s t) : ∀ {l : List Int} {x y : rf_T}, rf_vw s l x y → rf_vw t l x y
  | [], _, _, g => g
  | _ :: _, _, _, ⟨A, B, g1, g2, g3⟩ => ⟨A, B, g1, rf_vt_up h g2, rf_vw_up h g3⟩
theorem rf_vw_snoc {s : sx_S} {v : Int} {A B : rf_T} (hv : rf_vt s v A) : ∀ {l : List Int} {x : rf_T}, rf_vw s l x (rf_a A B) → rf_vw s (l ++ [v]) x B
  | [], x, g => ⟨A, B, g, hv, rfl⟩
  | _ :: _, x, ⟨A', B', g1, g2, g3⟩ => ⟨A', B', g1, g2, rf_vw_snoc hv g3⟩
theorem rf_vw_unsnoc {s : sx_S} {v : Int} {B : rf_T} : ∀ {l : List Int} {x : rf_T}, rf_vw s (l ++ [v]) x B → ∃ A, rf_vw s l x (rf_a A B) ∧ rf_vt s v A
  | [], x, ⟨A, B', g1, g2, g3⟩ => by
    have e : B' = B := g3
    subst e
    exact ⟨A, g1, g2⟩
  | _ :: _, x, ⟨A', B', g1, g2, g3⟩ => by
    obtain ⟨A, h1, h2⟩ := rf_vw_unsnoc g3
    exact ⟨A, ⟨A', B', g1, g2, h1⟩, h2⟩
theorem rf_vw_len {s : sx_S} : ∀ {l : List Int} {x y : rf_T}, rf_vw s l x y → l.length + rf_at y ≤ rf_at x
  | [], x, y, g => by
    have e : x = y := g
    rw [e]
    exact Nat.le_of_eq (Nat.zero_add _)
  | _ :: l, x, y, ⟨A, B, g1, _, g3⟩ => by
    have := rf_vw_len g3
    have := rf_at_pos A
    rw [g1, List.length_cons]
    show _ ≤ rf_at A + rf_at B
    omega
theorem rf_vw_rp {s : sx_S} {U : rf_T} {i : Int} : ∀ {n : Nat} {x : rf_T}, rf_vw s (rf_rl s i n) U x → rf_rp s x U i (i + (n : Int))
  | 0, x, g => by
    have e : U = x := g
    subst e
    cases U with
    | leaf => exact ⟨rfl, by omega⟩
    | inner _ _ _ _ _ => exact Or.inl ⟨rfl, by omega⟩
  | n + 1, x, g => by
    obtain ⟨A, h1, h2⟩ := rf_vw_unsnoc g
    have := rf_rp_snoc h2 (rf_vw_rp h1)
    rw [show i + ((n + 1 : Nat) : Int) = i + (n : Int) + 1 by omega]
    exact this
/-- n numbers of the small array o -/
def rf_ol (s : sx_S) (o : Nat) : Nat → List Int
  | 0 => []
  | n + 1 => rf_ol s o n ++ [s.2.2.1 o n]
theorem rf_ol_eq {s t : sx_S} {o : Nat} : ∀ {n : Nat}, (∀ q, q < n → t.2.2.1 o q = s.2.2.1 o q) → rf_ol t o n = rf_ol s o n
  | 0, _ => rfl
  | n + 1, h => by
    unfold rf_ol
    rw [rf_ol_eq (n := n) (fun q hq => h q (by omega)), h n (by omega)]
/-- what building leaves as it was -/
def rf_FB (s t : sx_S) : Prop := (∀ p, cx_out [(66, 66), (100, 106)] p → t.1 p = s.1 p ∧ t.2.1 p = s.2.1 p) ∧ rf_f [50, 56, 58] s t ∧ rf_xu s t ∧ rf_ag 100 103 (s.1 66 50) s t ∧ (∀ o, o < s.2.2.2 → t.2.2.1 o = s.2.2.1 o) ∧ s.2.2.2 ≤ t.2.2.2
theorem rf_FB_refl (s : sx_S) : rf_FB s s := ⟨fun _ _ => ⟨rfl, rfl⟩, rf_f_refl _ _, rf_xu_refl _, rf_ag_refl _ _ _ _, fun _ _ => rfl, Nat.le_refl _⟩
theorem rf_FB_trans {s t u : sx_S} (h2 : rf_FB t u) (h1 : rf_FB s t) : rf_FB s u := by
  obtain ⟨a1, a2, a3, a4, a5, a6⟩ := h1
  obtain ⟨b1, b2, b3, b4, b5, b6⟩ := h2
  exact ⟨fun p hp => ⟨(b1 p hp).1.trans (a1 p hp).1, (b1 p hp).2.trans (a1 p hp).2⟩, rf_f_step b2 rfl a2, rf_xu_trans b3 a3, rf_ag_trans b4 (a3.2 0).1.2.2.1 a4, fun o ho => (b5 o (by omega)).trans (a5 o ho), Nat.le_trans a6 b6⟩
theorem rf_FB_F {V : List (Nat × Nat)} {W : List Nat} {s t : sx_S} {m : Int} (hF : cx_F V s t) (hV : cx_le V [(66, 66), (100, 106)] = true) (hf : rf_f W s t) (hW : W.all (fun k => [50, 56, 58].contains k) = true) (hx : rf_xu s t) (ha : rf_ag 100 103 m s t) (hm : s.1 66 50 ≤ m) : rf_FB s t := by
  have e : t.2.2 = s.2.2 := (hF 0).2
  refine ⟨fun p hp => (hF p).1 (cx_le_ok hV hp), rf_f_step hf hW (rf_f_refl _ _), hx, rf_ag_trans ha hm (rf_ag_refl _ _ _ _), fun o _ => by rw [e], by rw [e]; exact Nat.le_refl _⟩
theorem rf_FB.same {s t : sx_S} (h : rf_FB s t) (p : Nat) (hp : cx_outb [(66, 66), (100, 106)] p = true) : t.1 p = s.1 p ∧ t.2.1 p = s.2.1 p := h.1 p (cx_outb_ok hp)
theorem rf_ym_up {s t : sx_S} (h : rf_FB s t) {n : rf_N} {i : Int} (g : rf_ym s n i) : rf_ym t n i := by
  have e : rf_rk t = rf_rk s := by
    funext j
    unfold rf_rk
    rw [(h.same 74 rfl).2, (h.same 83 rfl).2]
  unfold rf_ym at g ⊢
  rw [e, (h.same 82 rfl).2, (h.same 80 rfl).2, (h.same 81 rfl).2, h.2.1 12 rfl]
  exact g
theorem rf_RH_up {s t : sx_S} (h : rf_xu s t) {j : Nat} {k r : Int} {u : rf_T} (g : rf_RH s j k r u) : rf_RH t j k r u := by
  obtain ⟨g0, g⟩ := g
  refine ⟨g0, ?_⟩
  rcases g with ⟨g1, g2⟩ | ⟨g1, g2, g3⟩ | ⟨g1, g2⟩ | ⟨g1, g2, g3⟩
  · exact Or.inl ⟨g1, rf_vt_up h g2⟩
  · refine Or.inr (Or.inl ⟨g1, ?_, ?_⟩)
    · have := (h.2 0).1
      omega
    · rw [(h.2 r.toNat).2.2.2.2.1]
      exact rf_is_up g3 h.1
  · exact Or.inr (Or.inr (Or.inl ⟨g1, rf_vt_up h g2⟩))
  · refine Or.inr (Or.inr (Or.inr ⟨g1, ?_, ?_⟩))
    · have := (h.2 0).1
      omega
    · rw [(h.2 r.toNat).2.2.2.2.2]
      exact rf_is_up g3 h.1
theorem rf_Rt_up {s t : sx_S} (h : rf_xu s t) {n : rf_N} (h84 : ∀ j ∈ rf_idx n, t.2.1 84 j = s.2.1 84 j) : (∀ x, (rf_gt (rf_RH s) (rf_RP s) n).1 x → (rf_gt (rf_RH t) (rf_RP t) n).1 x) ∧ (∀ x y, (rf_gt (rf_RH s) (rf_RP s) n).2 x y → (rf_gt (rf_RH t) (rf_RP t) n).2 x y) :=
  rf_gt_mono (fun j hj => ⟨fun k r u g => rf_RH_up h g, fun x g => by
    unfold rf_RP
    rw [h84 j hj]
    exact rf_is_up g h.1⟩)
theorem rf_lf_nn {s : sx_S} {v : Int} : ∀ {n : rf_N} {us : List Int} {x : rf_T}, (rf_lf2 n).1 us v → (rf_gt (rf_H s) rf_P n).1 x → 0 ≤ v
  | .leaf, _, _, h, _ => h.elim
  | .inner j k u f y, us, x, h, g => by
    rcases h with ⟨h1, h2⟩ | ⟨h1, h2, _⟩
    · rcases g with ⟨_, A, B, _, _, g⟩ | ⟨g, _⟩
      · exact rf_lf_nn h2 g
      · exact absurd h1 g
    · rcases g with ⟨g, _⟩ | ⟨_, w, g, _⟩
      · omega
      · have := (rf_H_2 g h1).1.1
        omega
theorem rf_lf2_sc {G : Nat → Int → List Int → Prop} {Γ : List Int} : ∀ {n : rf_N} {vs : List Int}, (rf_lf2 n).2 vs → (rf_sc G n).2 Γ → ∀ v ∈ vs, v ∈ Γ
  | .leaf, vs, h, _, v, hv => by
    have e : vs = [] := h
    rw [e] at hv
    exact absurd hv List.not_mem_nil
  | .inner j k u f x, vs, ⟨w, vs', h1, h2, h3⟩, g, v, hv => by
    rw [h1] at hv
    rcases List.mem_cons.mp hv with rfl | hv
    · exact rf_lf_sc (n := .inner j k u f x) (us := []) (D := Γ) h2 g.1 (fun w hw => Or.inr hw)
    · exact rf_lf2_sc h3 g.2 v hv
/-- a part more at the end -/
theorem rf_lf2_snoc1 {j : Nat} {k : Int × Int} {u : Unit} {p : rf_N} : ∀ {f : rf_N} {us : List Int}, (rf_lf2 (rf_snoc f (.inner j k u p .leaf))).2 us ↔ ∃ us' v, us = us' ++ [v] ∧ (rf_lf2 f).2 us' ∧ rf_lf (.inner j k u p .leaf) v
  | .leaf, us => by
    constructor
    · rintro ⟨w, us', h1, h2, h3⟩
      have e : us' = [] := h3
      subst e
      exact ⟨[], w, h1, rfl, h2⟩
    · rintro ⟨us', v, h1, h2, h3⟩
      have e : us' = [] := h2
      subst e
      exact ⟨v, [], h1, h3, rfl⟩
  | .inner j' k' u' f' x', us => by
    constructor
    · rintro ⟨w, us', h1, h2, h3⟩
      obtain ⟨us'', v, e1, e2, e3⟩ := rf_lf2_snoc1.mp h3
      exact ⟨w :: us'', v, by rw [h1, e1]; rfl, ⟨w, us'', rfl, h2, e2⟩, e3⟩
    · rintro ⟨us', v, h1, ⟨w, us'', e1, e2, e3⟩, h3⟩
      exact ⟨w, us'' ++ [v], by rw [h1, e1]; rfl, e2, rf_lf2_snoc1.mpr ⟨us'', v, rfl, e3, h3⟩⟩
theorem rf_RH_H {s : sx_S} {j : Nat} {k r : Int} {u : rf_T} (h : rf_RH s j k r u) (i : Nat) (hk : k ≠ 3) : rf_H s i k r u := by
  rcases h.2 with h | h | h | h
  · exact Or.inl h
  · exact Or.inr (Or.inl h)
  · exact Or.inr (Or.inr (Or.inl h))
  · exact absurd h.1 hk
end
