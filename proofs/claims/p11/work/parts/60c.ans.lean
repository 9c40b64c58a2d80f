/-! ===== the desk's answers: what an unknown is given ===== -/
theorem w_dv_body {CALL : sx_Ca} {sL : Nat} {sx : Nat → Int32} {Q : Nat → sx_L → sx_S → Prop} {R : Int → sx_S → Prop} {s : sx_S} {a0 : Int} (hI : cx_I s) (p0 : (-2147483648 ≤ a0 ∧ a0 ≤ 2147483647)) (hK : ∀ z : Int, (0 ≤ a0 → a0 < s.1 33 6 → z = s.2.1 34 a0.toNat) → (a0 < 0 → z = -1) → R z s) : sx_wp true sL sx eX0_body CALL [] Q R 400 0 (sx_argsF 0 [.inr (.inl 33), .inl a0]) [] s := by
  repeat' (first | (with_reducible (rintro _ rfl)) | (with_reducible intro _) | (refine And.intro ?_ ?_) | (refine hK _ ?_ ?_))
  all_goals (try dsimp only)
  repeat' (first | (with_reducible assumption) | ((with_reducible (change cx_I (sx_uf _ _ _ _, _))); refine cx_I_uf rfl rfl ?_ ?_ ?_) | ((with_reducible (change cx_I (_, sx_ua _ _ _ _, _))); refine cx_I_ua rfl rfl ?_ ?_ ?_) | ((with_reducible (change cx_I (_, sx_ua _ 16 _ _, _))); refine cx_I_ari ?_ ?_ ?_) | ((with_reducible (change cx_I (sx_uf _ 11 6 _, _))); refine cx_I_ufA rfl ?_ ?_ ?_ ?_) | (with_reducible exact cx_F_refl _ _) | ((with_reducible (change cx_F _ _ (sx_uf _ _ _ _, _))); refine cx_F_uf rfl ?_) | ((with_reducible (change cx_F _ _ (_, sx_ua _ _ _ _, _))); refine cx_F_ua rfl ?_) | ((with_reducible (change cx_I (_, sx_cpy _ _ _ _ _ _, _))); refine cx_I_cpy rfl rfl rfl (by decide) ?_) | ((with_reducible (change cx_F _ _ (_, sx_cpy _ _ _ _ _ _, _))); refine cx_F_cpy rfl ?_) | ((with_reducible (change cx_F _ _ _)); refine cx_F_step (by assumption) rfl ?_) | fail)
  all_goals (try dsimp only at *)
  all_goals (first | trivial | omega | rfl | (intros; omega) | (intros; rfl) | skip)

theorem c_dv_body {sL : Nat} {sx : Nat → Int32} (hsL : sL ≤ 3072) (d : Nat) (hd : 2 ≤ d) : ∀ (a0 : Int) (s : sx_S) (K : Int → sx_S → Prop), cx_I s → (-2147483648 ≤ a0 ∧ a0 ≤ 2147483647) → (∀ z : Int, (0 ≤ a0 → a0 < s.1 33 6 → z = s.2.1 34 a0.toNat) → (a0 < 0 → z = -1) → K z s) → sx_C sL sx d 4 [.inr (.inl 33), .inl a0] s K := by
  intro a0 s K hI p0 hK
  obtain ⟨d, rfl⟩ : ∃ e, d = e + 2 := ⟨d - 2, by omega⟩
  exact sx_meth (wr := true) (n := 400) hsL (e := eX0_body) rfl (w_dv_body (Q := fun _ _ _ => False)  hI p0 hK)

theorem w_dv_anode {CALL : sx_Ca} {sL : Nat} {sx : Nat → Int32} {Q : Nat → sx_L → sx_S → Prop} {R : Int → sx_S → Prop} {s : sx_S} (hI : cx_I s) (hK : ∀ z : Int, (z = s.1 33 7) → R z s) : sx_wp true sL sx eX0_node CALL [] Q R 400 0 (sx_argsF 0 [.inr (.inl 33)]) [] s := by
  repeat' (first | (with_reducible (rintro _ rfl)) | (with_reducible intro _) | (refine And.intro ?_ ?_) | (refine hK _ ?_))
  all_goals (try dsimp only)
  repeat' (first | (with_reducible assumption) | ((with_reducible (change cx_I (sx_uf _ _ _ _, _))); refine cx_I_uf rfl rfl ?_ ?_ ?_) | ((with_reducible (change cx_I (_, sx_ua _ _ _ _, _))); refine cx_I_ua rfl rfl ?_ ?_ ?_) | ((with_reducible (change cx_I (_, sx_ua _ 16 _ _, _))); refine cx_I_ari ?_ ?_ ?_) | ((with_reducible (change cx_I (sx_uf _ 11 6 _, _))); refine cx_I_ufA rfl ?_ ?_ ?_ ?_) | (with_reducible exact cx_F_refl _ _) | ((with_reducible (change cx_F _ _ (sx_uf _ _ _ _, _))); refine cx_F_uf rfl ?_) | ((with_reducible (change cx_F _ _ (_, sx_ua _ _ _ _, _))); refine cx_F_ua rfl ?_) | ((with_reducible (change cx_I (_, sx_cpy _ _ _ _ _ _, _))); refine cx_I_cpy rfl rfl rfl (by decide) ?_) | ((with_reducible (change cx_F _ _ (_, sx_cpy _ _ _ _ _ _, _))); refine cx_F_cpy rfl ?_) | ((with_reducible (change cx_F _ _ _)); refine cx_F_step (by assumption) rfl ?_) | fail)
  all_goals (try dsimp only at *)
  all_goals (first | trivial | omega | rfl | (intros; omega) | (intros; rfl) | skip)

theorem c_dv_anode {sL : Nat} {sx : Nat → Int32} (hsL : sL ≤ 3072) (d : Nat) (hd : 2 ≤ d) : ∀ (s : sx_S) (K : Int → sx_S → Prop), cx_I s → (∀ z : Int, (z = s.1 33 7) → K z s) → sx_C sL sx d 2 [.inr (.inl 33)] s K := by
  intro  s K hI  hK
  obtain ⟨d, rfl⟩ : ∃ e, d = e + 2 := ⟨d - 2, by omega⟩
  exact sx_meth (wr := true) (n := 400) hsL (e := eX0_node) rfl (w_dv_anode (Q := fun _ _ _ => False)  hI  hK)

theorem w_dv_achain {CALL : sx_Ca} {sL : Nat} {sx : Nat → Int32} {Q : Nat → sx_L → sx_S → Prop} {R : Int → sx_S → Prop} {s : sx_S} (hI : cx_I s) (hK : ∀ z : Int, (z = s.1 33 8) → R z s) : sx_wp true sL sx eX0_chain CALL [] Q R 400 0 (sx_argsF 0 [.inr (.inl 33)]) [] s := by
  repeat' (first | (with_reducible (rintro _ rfl)) | (with_reducible intro _) | (refine And.intro ?_ ?_) | (refine hK _ ?_))
  all_goals (try dsimp only)
  repeat' (first | (with_reducible assumption) | ((with_reducible (change cx_I (sx_uf _ _ _ _, _))); refine cx_I_uf rfl rfl ?_ ?_ ?_) | ((with_reducible (change cx_I (_, sx_ua _ _ _ _, _))); refine cx_I_ua rfl rfl ?_ ?_ ?_) | ((with_reducible (change cx_I (_, sx_ua _ 16 _ _, _))); refine cx_I_ari ?_ ?_ ?_) | ((with_reducible (change cx_I (sx_uf _ 11 6 _, _))); refine cx_I_ufA rfl ?_ ?_ ?_ ?_) | (with_reducible exact cx_F_refl _ _) | ((with_reducible (change cx_F _ _ (sx_uf _ _ _ _, _))); refine cx_F_uf rfl ?_) | ((with_reducible (change cx_F _ _ (_, sx_ua _ _ _ _, _))); refine cx_F_ua rfl ?_) | ((with_reducible (change cx_I (_, sx_cpy _ _ _ _ _ _, _))); refine cx_I_cpy rfl rfl rfl (by decide) ?_) | ((with_reducible (change cx_F _ _ (_, sx_cpy _ _ _ _ _ _, _))); refine cx_F_cpy rfl ?_) | ((with_reducible (change cx_F _ _ _)); refine cx_F_step (by assumption) rfl ?_) | fail)
  all_goals (try dsimp only at *)
  all_goals (first | trivial | omega | rfl | (intros; omega) | (intros; rfl) | skip)

theorem c_dv_achain {sL : Nat} {sx : Nat → Int32} (hsL : sL ≤ 3072) (d : Nat) (hd : 2 ≤ d) : ∀ (s : sx_S) (K : Int → sx_S → Prop), cx_I s → (∀ z : Int, (z = s.1 33 8) → K z s) → sx_C sL sx d 3 [.inr (.inl 33)] s K := by
  intro  s K hI  hK
  obtain ⟨d, rfl⟩ : ∃ e, d = e + 2 := ⟨d - 2, by omega⟩
  exact sx_meth (wr := true) (n := 400) hsL (e := eX0_chain) rfl (w_dv_achain (Q := fun _ _ _ => False)  hI  hK)

theorem w_dv_bind {CALL : sx_Ca} {sL : Nat} {sx : Nat → Int32} {Q : Nat → sx_L → sx_S → Prop} {R : Int → sx_S → Prop} {s : sx_S} {a0 a1 : Int} (hI : cx_I s) (p0 : 0 ≤ a0 ∧ a0 < 32) (p1 : -2147483648 ≤ a1 ∧ a1 ≤ 2147483647) (hK : cx_I (s.1, sx_ua (sx_ua s.2.1 34 a0.toNat a1) 35 a0.toNat 0, s.2.2) → R 0 (s.1, sx_ua (sx_ua s.2.1 34 a0.toNat a1) 35 a0.toNat 0, s.2.2)) : sx_wp true sL sx eX0_bind CALL [] Q R 400 0 (sx_argsF 0 [.inr (.inl 33), .inl a0, .inl a1]) [] s := by
  have m0 : cx_I (s.1, sx_ua s.2.1 34 a0.toNat a1, s.2.2) := cx_I_ua rfl rfl hI (by omega) (by omega)
  have m1 : cx_I (s.1, sx_ua (sx_ua s.2.1 34 a0.toNat a1) 35 a0.toNat 0, s.2.2) := cx_I_ua rfl rfl m0 (by omega) (by omega)
  have zz1 := hK m1
  repeat' (first | (with_reducible (rintro _ rfl)) | (with_reducible intro _) | (refine And.intro ?_ ?_))
  all_goals (try dsimp only at *)
  all_goals (first | trivial | assumption | omega | (exfalso; omega) | skip)
theorem c_dv_bind {sL : Nat} {sx : Nat → Int32} (hsL : sL ≤ 3072) (d : Nat) (hd : 2 ≤ d) : ∀ (a0 a1 : Int) (s : sx_S) (R : Int → sx_S → Prop), cx_I s → (0 ≤ a0 ∧ a0 < 32) → (-2147483648 ≤ a1 ∧ a1 ≤ 2147483647) → (cx_I (s.1, sx_ua (sx_ua s.2.1 34 a0.toNat a1) 35 a0.toNat 0, s.2.2) → R 0 (s.1, sx_ua (sx_ua s.2.1 34 a0.toNat a1) 35 a0.toNat 0, s.2.2)) → sx_C sL sx d 7 [.inr (.inl 33), .inl a0, .inl a1] s R := by
  intro a0 a1 s R hI p0 p1 hK
  obtain ⟨d, rfl⟩ : ∃ e, d = e + 2 := ⟨d - 2, by omega⟩
  exact sx_meth (wr := true) (n := 400) hsL (e := eX0_bind) rfl (w_dv_bind (Q := fun _ _ _ => False) hI p0 p1 hK)
theorem w_dv_addP {CALL : sx_Ca} {sL : Nat} {sx : Nat → Int32} {Q : Nat → sx_L → sx_S → Prop} {R : Int → sx_S → Prop} {s : sx_S} {a0 a1 a2 : Int} (hI : cx_I s) (p0 : 0 ≤ a0 ∧ a0 < 32) (p1 : -2147483648 ≤ a1 ∧ a1 ≤ 2147483647) (p2 : -2147483648 ≤ a2 ∧ a2 ≤ 2147483647) (p3 : s.2.1 35 a0.toNat < 4) (hK : cx_I (s.1, sx_ua (sx_ua (sx_ua s.2.1 36 (a0 * 4 + s.2.1 35 a0.toNat).toNat a1) 37 (a0 * 4 + s.2.1 35 a0.toNat).toNat a2) 35 a0.toNat (s.2.1 35 a0.toNat + 1), s.2.2) → R 0 (s.1, sx_ua (sx_ua (sx_ua s.2.1 36 (a0 * 4 + s.2.1 35 a0.toNat).toNat a1) 37 (a0 * 4 + s.2.1 35 a0.toNat).toNat a2) 35 a0.toNat (s.2.1 35 a0.toNat + 1), s.2.2)) : sx_wp true sL sx eX0_addPair CALL [] Q R 400 0 (sx_argsF 0 [.inr (.inl 33), .inl a0, .inl a1, .inl a2]) [] s := by
  have h0 := hI.arr 35 (by decide) rfl a0.toNat
  have m0 : cx_I (s.1, sx_ua s.2.1 36 (a0 * 4 + s.2.1 35 a0.toNat).toNat a1, s.2.2) := cx_I_ua rfl rfl hI (by omega) (by omega)
  have m1 : cx_I (s.1, sx_ua (sx_ua s.2.1 36 (a0 * 4 + s.2.1 35 a0.toNat).toNat a1) 37 (a0 * 4 + s.2.1 35 a0.toNat).toNat a2, s.2.2) := cx_I_ua rfl rfl m0 (by omega) (by omega)
  have m2 : cx_I (s.1, sx_ua (sx_ua (sx_ua s.2.1 36 (a0 * 4 + s.2.1 35 a0.toNat).toNat a1) 37 (a0 * 4 + s.2.1 35 a0.toNat).toNat a2) 35 a0.toNat (s.2.1 35 a0.toNat + 1), s.2.2) := cx_I_ua rfl rfl m1 (by omega) (by omega)
  have zz1 := hK m2
  have zzm : sx_w true (a0 * 4) = a0 * 4 := px_wid (by omega) (by omega)
  have zzp : sx_w true (a0 * 4 + s.2.1 35 a0.toNat) = a0 * 4 + s.2.1 35 a0.toNat := px_wid (by omega) (by omega)
  have zzu : sx_w true (s.2.1 35 a0.toNat + 1) = s.2.1 35 a0.toNat + 1 := px_wid (by omega) (by omega)
  have zza : ∀ i v j w, (sx_ua (sx_ua s.2.1 36 i v) 37 j w) 35 a0.toNat = s.2.1 35 a0.toNat := fun i v j w => by rw [sx_ua_ne (by decide), sx_ua_ne (by decide)]
  repeat' (first | (with_reducible (rintro _ rfl)) | (with_reducible intro _) | (refine And.intro ?_ ?_))
  all_goals (try dsimp only at *)
  all_goals (first | trivial | assumption | omega | (exfalso; omega) | (show R _ _; simp only [zzm, zzp, zza, zzu]; exact zz1) | (simp only [zzm, zzp, zza, zzu] at *; first | assumption | omega) | skip)
theorem c_dv_addP {sL : Nat} {sx : Nat → Int32} (hsL : sL ≤ 3072) (d : Nat) (hd : 2 ≤ d) : ∀ (a0 a1 a2 : Int) (s : sx_S) (R : Int → sx_S → Prop), cx_I s → (0 ≤ a0 ∧ a0 < 32) → (-2147483648 ≤ a1 ∧ a1 ≤ 2147483647) → (-2147483648 ≤ a2 ∧ a2 ≤ 2147483647) → s.2.1 35 a0.toNat < 4 → (cx_I (s.1, sx_ua (sx_ua (sx_ua s.2.1 36 (a0 * 4 + s.2.1 35 a0.toNat).toNat a1) 37 (a0 * 4 + s.2.1 35 a0.toNat).toNat a2) 35 a0.toNat (s.2.1 35 a0.toNat + 1), s.2.2) → R 0 (s.1, sx_ua (sx_ua (sx_ua s.2.1 36 (a0 * 4 + s.2.1 35 a0.toNat).toNat a1) 37 (a0 * 4 + s.2.1 35 a0.toNat).toNat a2) 35 a0.toNat (s.2.1 35 a0.toNat + 1), s.2.2)) → sx_C sL sx d 8 [.inr (.inl 33), .inl a0, .inl a1, .inl a2] s R := by
  intro a0 a1 a2 s R hI p0 p1 p2 p3 hK
  obtain ⟨d, rfl⟩ : ∃ e, d = e + 2 := ⟨d - 2, by omega⟩
  exact sx_meth (wr := true) (n := 400) hsL (e := eX0_addPair) rfl (w_dv_addP (Q := fun _ _ _ => False) hI p0 p1 p2 p3 hK)

/-- the pairs of an unknown: (variable, which ARG) -/
def dv_pr (s : sx_S) (u : Int) (P : List (Int × Int)) : Prop := True → s.2.1 35 u.toNat = (P.length : Int) ∧ P.length ≤ 4 ∧ ∀ (i : Nat) (q : Int × Int), P[i]? = some q → s.2.1 36 (u * 4 + (i : Int)).toNat = q.1 ∧ s.2.1 37 (u * 4 + (i : Int)).toNat = q.2
/-- the chain of the body: hs the ARGs of the call, c its chain -/
def dv_in (P : List (Int × Int)) (hs : List Int) (c : List (Int × Int)) : List (Int × Int) := (P.map (fun q => (q.1, dv_lk c (hs.getD q.2.toNat (-1))))).reverse
theorem dz_hs_dr : ∀ (n : Nat) (f : rf_N), dz_hs (dz_dr n f) = (dz_hs f).drop n
  | 0, f => rfl
  | n + 1, .leaf => rfl
  | n + 1, .inner _ k _ _ x => by
    show dz_hs (dz_dr n x) = (k.2 :: dz_hs x).drop (n + 1)
    rw [List.drop_succ_cons]
    exact dz_hs_dr n x
/-- the i-th of a row -/
theorem dv_nth {s : sx_S} {f : rf_N} {n : Nat} {w : Int} (hn : n < rf_len f) (h : dz_nd s (dz_dr n f) w) : (0 ≤ w ∧ w < s.1 11 6) ∧ s.2.1 13 w.toNat = (dz_hs f).getD n (-1) := by
  have ld := dz_dr_len n f
  have hw : w ≠ -1 := fun e => by
    rw [rf_nd_nil h e] at ld
    have : rf_len .leaf = 0 := rfl
    omega
  have r := rf_nd_rng h
  refine ⟨by omega, ?_⟩
  obtain ⟨ff, x, e1, _⟩ := rf_nd_cons h hw
  have e2 := dz_hs_dr n f
  rw [e1] at e2
  have e3 : s.2.1 13 w.toNat :: dz_hs x = (dz_hs f).drop n := e2
  rw [List.getD_eq_getElem?_getD]
  have e4 : (dz_hs f)[n]? = some (s.2.1 13 w.toNat) := by
    have := congrArg (fun l : List Int => l[0]?) e3
    rw [List.getElem?_drop] at this
    exact this.symm
  rw [e4]
  rfl
theorem w_dv_ins {CALL : sx_Ca} {sL : Nat} {sx : Nat → Int32} {Q : Nat → sx_L → sx_S → Prop} {R : Int → sx_S → Prop} (h_head : ∀ (a0 : Int) (s : sx_S) (K : Int → sx_S → Prop), cx_I s → (-2147483648 ≤ a0 ∧ a0 ≤ 2147483647) → (∀ z : Int, (0 ≤ a0 → a0 < s.1 11 6 → z = s.2.1 13 a0.toNat) → (a0 < 0 → z = -1) → K z s) → CALL 92 [.inr (.inl 11), .inl a0] s K) {s : sx_S} {a0 a1 x3 : Int} (hI : cx_I s) (p0 : 0 ≤ a0 ∧ a0 < s.1 11 6) (p1 : -2147483648 ≤ a1 ∧ a1 ≤ 2147483647) (q3 : s.2.1 13 a0.toNat = x3 ∧ 0 ≤ x3 ∧ x3 < 32) (hQ : Q 28 [(0, .inr (.inl 33)), (1, .inl a0), (2, .inl a1), (3, .inl x3), (4, .inl (-1)), (5, .inl 0)] s) : sx_wp true sL sx eX0_inside CALL [(28, [0, 1, 2, 3, 4, 5])] Q R 400 0 (sx_argsF 0 [.inr (.inl 33), .inl a0, .inl a1]) [] s := by
  have h0 := hI.fld 11 6 (by decide) rfl
  refine h_head _ _ _ hI (by omega) (fun z z1 z2 => ?_)
  obtain rfl : z = x3 := by rw [z1 (by omega) (by omega)]; exact q3.1
  repeat' (first | (with_reducible (rintro _ rfl)) | (with_reducible intro _) | (refine And.intro ?_ ?_))
  all_goals (try dsimp only at *)
  all_goals (first | trivial | assumption | omega | (exfalso; omega) | skip)
theorem w_dv_ins28 {CALL : sx_Ca} {sL : Nat} {sx : Nat → Int32} {Q : Nat → sx_L → sx_S → Prop} {R : Int → sx_S → Prop} (h_head : ∀ (a0 : Int) (s : sx_S) (K : Int → sx_S → Prop), cx_I s → (-2147483648 ≤ a0 ∧ a0 ≤ 2147483647) → (∀ z : Int, (0 ≤ a0 → a0 < s.1 11 6 → z = s.2.1 13 a0.toNat) → (a0 < 0 → z = -1) → K z s) → CALL 92 [.inr (.inl 11), .inl a0] s K) {s : sx_S} {a0 a1 x3 x4 x5 w lv : Int} (h_arg : x5 < s.2.1 35 x3.toNat → ∀ K : Int → sx_S → Prop, K w s → CALL 95 [.inr (.inl 11), .inl a0, .inl (s.2.1 37 (x3 * 4 + x5).toNat)] s K) (h_of : x5 < s.2.1 35 x3.toNat → ∀ K : Int → sx_S → Prop, K lv s → CALL 47 [.inr (.inl 29), .inl a1, .inl (s.2.1 13 w.toNat)] s K) (h_with : x5 < s.2.1 35 x3.toNat → ∀ K : Int → sx_S → Prop, (∀ t, cx_I t → cx_F [(29, 32)] s t → dv_w1 x4 (s.2.1 36 (x3 * 4 + x5).toNat) lv s t → K (s.1 29 3) t) → CALL 46 [.inr (.inl 29), .inl x4, .inl (s.2.1 36 (x3 * 4 + x5).toNat), .inl lv] s K) (hI : cx_I s) (p0 : 0 ≤ a0 ∧ a0 < s.1 11 6) (p1 : -2147483648 ≤ a1 ∧ a1 ≤ 2147483647) (q3 : 0 ≤ x3 ∧ x3 < 32) (q4 : -2147483648 ≤ x4 ∧ x4 ≤ 2147483647) (q5 : 0 ≤ x5 ∧ x5 ≤ s.2.1 35 x3.toNat) (qw : x5 < s.2.1 35 x3.toNat → 0 ≤ w ∧ w < s.1 11 6) (hK : x5 = s.2.1 35 x3.toNat → R x4 s) (hQ : x5 < s.2.1 35 x3.toNat → ∀ t, cx_I t → cx_F [(29, 32)] s t → dv_w1 x4 (s.2.1 36 (x3 * 4 + x5).toNat) lv s t → Q 28 [(0, .inr (.inl 33)), (1, .inl a0), (2, .inl a1), (3, .inl x3), (4, .inl (s.1 29 3)), (5, .inl (x5 + 1))] t) : sx_wp true sL sx eX0_inside CALL [(28, [0, 1, 2, 3, 4, 5])] Q R 400 28 [(0, .inr (.inl 33)), (1, .inl a0), (2, .inl a1), (3, .inl x3), (4, .inl x4), (5, .inl x5)] [] s := by
  have h0 := hI.fld 11 6 (by decide) rfl
  have h1 := hI.arr 35 (by decide) rfl x3.toNat
  have h2 := hI.arr 13 (by decide) rfl w.toNat
  have zzm : sx_w true (x3 * 4) = x3 * 4 := px_wid (by omega) (by omega)
  have zzp : sx_w true (x3 * 4 + x5) = x3 * 4 + x5 := px_wid (by omega) (by omega)
  have zzy : sx_w true (x5 + 1) = x5 + 1 := px_wid (by omega) (by omega)
  repeat' (first | (with_reducible (rintro _ rfl)) | (with_reducible intro _) | (refine And.intro ?_ ?_) | (simp only [zzm, zzp]; refine h_arg (by omega) _ ?_) | (refine h_head _ _ _ hI (by first | omega | (have := qw (by omega); omega)) (fun z z1 z2 => ?_); obtain rfl := z1 (by have := qw (by omega); omega) (by have := qw (by omega); omega)) | (simp only [zzm, zzp]; refine h_of (by omega) _ ?_) | (simp only [zzm, zzp]; refine h_with (by omega) _ (fun t t1 t2 t3 => ?_)))
  all_goals (try dsimp only at *)
  all_goals (first | trivial | assumption | omega | (exfalso; omega) | (exact hK (by omega)) | (have zz9 := hQ (by omega) _ t1 t2 t3; rw [← zzy] at zz9; exact zz9) | (simp only [zzm, zzp] at *; first | assumption | omega) | skip)
