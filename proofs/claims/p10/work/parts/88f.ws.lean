section
/-! ===== the desk writes: a step, piece by piece ===== -/
theorem w_dv_pother56 {CALL : sx_Ca} {sL : Nat} {sx : Nat → Int32} {Q : Nat → sx_L → sx_S → Prop} {R : Int → sx_S → Prop} {s : sx_S} (hI : cx_I s) (hK : ∀ z : Int, (s.1 56 6 < 512 → z = s.2.1 59 (s.1 56 6).toNat) → R z s) : sx_wp true sL sx eX5_other CALL [] Q R 400 0 (sx_argsF 0 [.inr (.inl 56)]) [] s := by
  repeat' (first | (with_reducible (rintro _ rfl)) | (with_reducible intro _) | (refine And.intro ?_ ?_) | (refine hK _ ?_))
  all_goals (try dsimp only)
  repeat' (first | (with_reducible assumption) | ((with_reducible (change cx_I (sx_uf _ _ _ _, _))); refine cx_I_uf rfl rfl ?_ ?_ ?_) | ((with_reducible (change cx_I (_, sx_ua _ _ _ _, _))); refine cx_I_ua rfl rfl ?_ ?_ ?_) | ((with_reducible (change cx_I (_, sx_ua _ 16 _ _, _))); refine cx_I_ari ?_ ?_ ?_) | ((with_reducible (change cx_I (sx_uf _ 11 6 _, _))); refine cx_I_ufA rfl ?_ ?_ ?_ ?_) | (with_reducible exact cx_F_refl _ _) | ((with_reducible (change cx_F _ _ (sx_uf _ _ _ _, _))); refine cx_F_uf rfl ?_) | ((with_reducible (change cx_F _ _ (_, sx_ua _ _ _ _, _))); refine cx_F_ua rfl ?_) | ((with_reducible (change cx_I (_, sx_cpy _ _ _ _ _ _, _))); refine cx_I_cpy rfl rfl rfl (by decide) ?_) | ((with_reducible (change cx_F _ _ (_, sx_cpy _ _ _ _ _ _, _))); refine cx_F_cpy rfl ?_) | ((with_reducible (change cx_F _ _ _)); refine cx_F_step (by assumption) rfl ?_) | fail)
  all_goals (try dsimp only at *)
  all_goals (first | trivial | omega | rfl | (intros; omega) | (intros; rfl) | skip)

theorem c_dv_pother56 {sL : Nat} {sx : Nat → Int32} (hsL : sL ≤ 3072) (d : Nat) (hd : 2 ≤ d) : ∀ (s : sx_S) (K : Int → sx_S → Prop), cx_I s → (∀ z : Int, (s.1 56 6 < 512 → z = s.2.1 59 (s.1 56 6).toNat) → K z s) → sx_C sL sx d 65 [.inr (.inl 56)] s K := by
  intro  s K hI  hK
  obtain ⟨d, rfl⟩ : ∃ e, d = e + 2 := ⟨d - 2, by omega⟩
  exact sx_meth (wr := true) (n := 400) hsL (e := eX5_other) rfl (w_dv_pother56 (Q := fun _ _ _ => False)  hI  hK)
/-- the top of the pile is taken, its marks are let go -/
def wk_po (s u : sx_S) : Prop := True → cx_I u ∧ cx_F [(29, 29), (56, 56)] s u ∧ u.1 56 6 = s.1 56 6 - 1 ∧ u.1 29 3 = s.2.1 62 (s.1 56 6 - 1).toNat
theorem w_k_ws {CALL : sx_Ca} {sL : Nat} {sx : Nat → Int32} {Q : Nat → sx_L → sx_S → Prop} {R : Int → sx_S → Prop} (h_dv_pop56 : ∀ (s : sx_S) (K : Int → sx_S → Prop), cx_I s → (∀ (z : Int) (t : sx_S), cx_I t → cx_F [(56, 56)] s t → (0 < s.1 56 6 → t.1 56 6 = s.1 56 6 - 1) → K z t) → CALL 62 [.inr (.inl 56)] s K) (h_dv_pmark56 : ∀ (s : sx_S) (K : Int → sx_S → Prop), cx_I s → (∀ z : Int, (s.1 56 6 < 512 → z = s.2.1 62 (s.1 56 6).toNat) → K z s) → CALL 68 [.inr (.inl 56)] s K) (h_dv_rel : ∀ (a0 : Int) (s : sx_S) (K : Int → sx_S → Prop), cx_I s → (-2147483648 ≤ a0 ∧ a0 ≤ 2147483647) → (∀ (z : Int) (t : sx_S), cx_I t → cx_F [(29, 29)] s t → (0 ≤ a0 → a0 ≤ s.1 29 3 → t.1 29 3 = a0) → K z t) → CALL 45 [.inr (.inl 29), .inl a0] s K) (h_dv_pother56 : ∀ (s : sx_S) (K : Int → sx_S → Prop), cx_I s → (∀ z : Int, (s.1 56 6 < 512 → z = s.2.1 59 (s.1 56 6).toNat) → K z s) → CALL 65 [.inr (.inl 56)] s K) {s : sx_S} {P1 : sx_S → sx_S → Prop} (hI : cx_I s) (p0 : 0 < s.1 56 6) (pm : 0 ≤ s.2.1 62 (s.1 56 6 - 1).toNat ∧ s.2.1 62 (s.1 56 6 - 1).toNat ≤ s.1 29 3) (hP : ∀ u, wk_po s u → s.2.1 59 (s.1 56 6 - 1).toNat = 2 → ∀ K : Int → sx_S → Prop, (∀ z t, P1 u t → K z t) → CALL 135 [.inr (.inl 55), .inl 41] u K) (hK : ∀ u t, wk_po s u → s.2.1 59 (s.1 56 6 - 1).toNat = 2 → P1 u t → R 0 t) (hQ : ∀ u, wk_po s u → s.2.1 59 (s.1 56 6 - 1).toNat ≠ 2 → Q 39 [(0, .inr (.inl 55))] u) : sx_wp true sL sx eX10_writeStep CALL [(39, [0]), (74, [0, 1, 2, 3]), (107, [0, 1, 2, 3, 4]), (167, [0, 1, 2, 3]), (212, [0, 1, 2, 3]), (230, [0, 1, 2, 3, 4])] Q R 400 0 (sx_argsF 0 [.inr (.inl 55)]) [] s := by
  have h56 := hI.fld 56 6 (by decide) rfl
  have r52 := hI.arr 62 (by decide) rfl (s.1 56 6 - 1).toNat
  have r59 := hI.arr 59 (by decide) rfl (s.1 56 6 - 1).toNat
  refine h_dv_pop56 _ _ hI (fun z1 t1 i1 f1 e1 => ?_)
  have e1' := e1 p0
  refine h_dv_pmark56 _ _ i1 (fun z2 e2 => ?_)
  have a1 : ∀ p, p ≠ 56 → t1.1 p = s.1 p ∧ t1.2.1 p = s.2.1 p := fun p hp => (f1 p).1 (by
    show cx_out [(56, 56)] p
    simp [cx_out]
    omega)
  have e2' : z2 = s.2.1 62 (s.1 56 6 - 1).toNat := by
    rw [e2 (by omega), e1', (a1 62 (by decide)).2]
  have l1 : t1.1 29 3 = s.1 29 3 := by rw [(a1 29 (by decide)).1]
  refine h_dv_rel _ _ _ i1 (by omega) (fun z3 t2 i2 f2 e3 => ?_)
  have a2 : ∀ p, p ≠ 29 → t2.1 p = t1.1 p ∧ t2.2.1 p = t1.2.1 p := fun p hp => (f2 p).1 (by
    show cx_out [(29, 29)] p
    simp [cx_out]
    omega)
  have e3' : t2.1 29 3 = s.2.1 62 (s.1 56 6 - 1).toNat := by rw [e3 (by omega) (by omega), e2']
  have u56 : t2.1 56 6 = s.1 56 6 - 1 := by rw [(a2 56 (by decide)).1, e1']
  have zpo : wk_po s t2 := fun _ => ⟨i2, cx_F_step f2 rfl (cx_F_step f1 rfl (cx_F_refl _ _)), u56, e3'⟩
  refine h_dv_pother56 t2 _ i2 (fun z4 e4 => ?_)
  have v4 : z4 = s.2.1 59 (s.1 56 6 - 1).toNat := by rw [e4 (by omega), u56, (a2 59 (by decide)).2, (a1 59 (by decide)).2]
  subst v4
  clear e1 e2 e3 e4 a1 a2 f1 f2
  repeat' (first | (with_reducible intro _) | (refine And.intro ?_ ?_) | (refine hP t2 zpo (by omega) _ (fun zz1 zt1 zp1 => ?_)) | (fail))
  all_goals (try dsimp only at *)
  all_goals (first | trivial | assumption | omega | (exfalso; omega) | (exact hK t2 _ zpo (by omega) zp1) | (exact hQ t2 zpo (by omega)) | skip)
theorem w_k_ws39 {CALL : sx_Ca} {sL : Nat} {sx : Nat → Int32} {Q : Nat → sx_L → sx_S → Prop} {R : Int → sx_S → Prop} (h_node : ∀ (s : sx_S) (K : Int → sx_S → Prop), cx_I s → (∀ z : Int, (s.1 56 6 < 512 → z = s.2.1 57 (s.1 56 6).toNat) → K z s) → CALL 63 [.inr (.inl 56)] s K) (h_chain : ∀ (s : sx_S) (K : Int → sx_S → Prop), cx_I s → (∀ z : Int, (s.1 56 6 < 512 → z = s.2.1 58 (s.1 56 6).toNat) → K z s) → CALL 64 [.inr (.inl 56)] s K) (h_level : ∀ (s : sx_S) (K : Int → sx_S → Prop), cx_I s → (∀ z : Int, (s.1 56 6 < 512 → z = s.2.1 61 (s.1 56 6).toNat) → K z s) → CALL 67 [.inr (.inl 56)] s K) (h_other : ∀ (s : sx_S) (K : Int → sx_S → Prop), cx_I s → (∀ z : Int, (s.1 56 6 < 512 → z = s.2.1 59 (s.1 56 6).toNat) → K z s) → CALL 65 [.inr (.inl 56)] s K) {s : sx_S} {x1 x2 x3 x5 : Int} (hI : cx_I s) (p0 : s.1 56 6 < 512) (e1 : s.2.1 57 (s.1 56 6).toNat = x1) (e2 : s.2.1 58 (s.1 56 6).toNat = x2) (e3 : s.2.1 61 (s.1 56 6).toNat = x3) (e5 : s.2.1 59 (s.1 56 6).toNat = x5) (hQ1 : x5 = 1 → Q 74 [(0, .inr (.inl 55)), (1, .inl x1), (2, .inl x2), (3, .inl x3)] s) (hQ2 : x5 ≠ 1 → Q 107 [(0, .inr (.inl 55)), (1, .inl x1), (2, .inl x2), (3, .inl x3), (4, .inl 0)] s) : sx_wp true sL sx eX10_writeStep CALL [(39, [0]), (74, [0, 1, 2, 3]), (107, [0, 1, 2, 3, 4]), (167, [0, 1, 2, 3]), (212, [0, 1, 2, 3]), (230, [0, 1, 2, 3, 4])] Q R 400 39 [(0, .inr (.inl 55))] [] s := by
  have r1 := hI.arr 57 (by decide) rfl (s.1 56 6).toNat
  have r2 := hI.arr 58 (by decide) rfl (s.1 56 6).toNat
  have r3 := hI.arr 61 (by decide) rfl (s.1 56 6).toNat
  have r5 := hI.arr 59 (by decide) rfl (s.1 56 6).toNat
  rw [e1] at r1
  rw [e2] at r2
  rw [e3] at r3
  rw [e5] at r5
  repeat' (first | (with_reducible intro _) | (refine And.intro ?_ ?_) | (refine h_node s _ hI (fun v v1 => ?_); obtain rfl : v = x1 := (v1 p0).trans e1) | (refine h_chain s _ hI (fun v v1 => ?_); obtain rfl : v = x2 := (v1 p0).trans e2) | (refine h_level s _ hI (fun v v1 => ?_); obtain rfl : v = x3 := (v1 p0).trans e3) | (refine h_other s _ hI (fun v v1 => ?_); obtain rfl : v = x5 := (v1 p0).trans e5) | (fail))
  all_goals (try dsimp only at *)
  all_goals (first | trivial | assumption | omega | (exfalso; omega) | (exact hQ1 (by omega)) | (exact hQ2 (by omega)) | skip)
theorem w_k_ws74 {CALL : sx_Ca} {sL : Nat} {sx : Nat → Int32} {Q : Nat → sx_L → sx_S → Prop} {R : Int → sx_S → Prop} (h_an : ∀ (s : sx_S) (K : Int → sx_S → Prop), cx_I s → (∀ z : Int, (z = s.1 33 7) → K z s) → CALL 2 [.inr (.inl 33)] s K) (h_ac : ∀ (s : sx_S) (K : Int → sx_S → Prop), cx_I s → (∀ z : Int, (z = s.1 33 8) → K z s) → CALL 3 [.inr (.inl 33)] s K) {s : sx_S} {x1 x2 x3 : Int} {P1 : sx_S → Prop} {P2 : sx_S → sx_S → Prop} (q1 : -2147483648 ≤ x1 ∧ x1 ≤ 2147483647) (q2 : -2147483648 ≤ x2 ∧ x2 ≤ 2147483647) (q3 : -2147483648 ≤ x3 ∧ x3 ≤ 2147483647) (h_sl : ∀ K : Int → sx_S → Prop, (∀ u, P1 u → K 0 u) → CALL 5 [.inr (.inl 33), .inl x1, .inl x2] s K) (hP1 : ∀ u, P1 u → cx_I u) (h_ba : ∀ u, P1 u → ∀ K : Int → sx_S → Prop, (∀ z t, P2 u t → K z t) → CALL 129 [.inr (.inl 55), .inl (u.1 33 7)] u K) (hQ : ∀ u t, P1 u → P2 u t → Q 107 [(0, .inr (.inl 55)), (1, .inl (u.1 33 7)), (2, .inl (u.1 33 8)), (3, .inl x3), (4, .inl 0)] t) : sx_wp true sL sx eX10_writeStep CALL [(39, [0]), (74, [0, 1, 2, 3]), (107, [0, 1, 2, 3, 4]), (167, [0, 1, 2, 3]), (212, [0, 1, 2, 3]), (230, [0, 1, 2, 3, 4])] Q R 400 74 [(0, .inr (.inl 55)), (1, .inl x1), (2, .inl x2), (3, .inl x3)] [] s := by
  repeat' (first | (with_reducible intro _) | (refine And.intro ?_ ?_) | (refine h_sl _ (fun zu zp => ?_); have zi := hP1 zu zp; have zr7 := zi.fld 33 7 (by decide) rfl; have zr8 := zi.fld 33 8 (by decide) rfl) | (refine h_an zu _ zi (fun v v1 => ?_); obtain rfl := v1) | (refine h_ac zu _ zi (fun v v1 => ?_); obtain rfl := v1) | (refine h_ba zu zp _ (fun zz2 zt2 zp2 => ?_)) | (fail))
  all_goals (try dsimp only at *)
  all_goals (first | trivial | assumption | omega | (exfalso; omega) | (exact hQ _ _ zp zp2) | skip)
theorem w_k_ws107y {CALL : sx_Ca} {sL : Nat} {sx : Nat → Int32} {Q : Nat → sx_L → sx_S → Prop} {R : Int → sx_S → Prop} (h_kind : ∀ (a0 : Int) (s : sx_S) (K : Int → sx_S → Prop), cx_I s → (-2147483648 ≤ a0 ∧ a0 ≤ 2147483647) → (∀ z : Int, (0 ≤ a0 → a0 < s.1 11 6 → z = s.2.1 12 a0.toNat) → (a0 < 0 → z = -1) → K z s) → CALL 91 [.inr (.inl 11), .inl a0] s K) (h_head : ∀ (a0 : Int) (s : sx_S) (K : Int → sx_S → Prop), cx_I s → (-2147483648 ≤ a0 ∧ a0 ≤ 2147483647) → (∀ z : Int, (0 ≤ a0 → a0 < s.1 11 6 → z = s.2.1 13 a0.toNat) → (a0 < 0 → z = -1) → K z s) → CALL 92 [.inr (.inl 11), .inl a0] s K) (h_body : ∀ (a0 : Int) (s : sx_S) (K : Int → sx_S → Prop), cx_I s → (-2147483648 ≤ a0 ∧ a0 ≤ 2147483647) → (∀ z : Int, (0 ≤ a0 → a0 < s.1 11 6 → z = s.2.1 14 a0.toNat) → (a0 < 0 → z = -1) → K z s) → CALL 93 [.inr (.inl 11), .inl a0] s K) (h_with : ∀ (a0 a1 a2 : Int) (s : sx_S) (R : Int → sx_S → Prop), cx_I s → s.1 29 3 < 1024 → (-2147483648 ≤ a0 ∧ a0 ≤ 2147483647) → (-2147483648 ≤ a1 ∧ a1 ≤ 2147483647) → (-2147483648 ≤ a2 ∧ a2 ≤ 2147483647) → (∀ t, cx_I t → cx_F [(29, 32)] s t → dv_w1 a0 a1 a2 s t → R (s.1 29 3) t) → CALL 46 [.inr (.inl 29), .inl a0, .inl a1, .inl a2] s R) {s : sx_S} {x1 x2 x3 x4 : Int} {P1 : sx_S → Prop} (hI : cx_I s) (p1 : 0 ≤ x1 ∧ x1 < s.1 11 6) (q2 : -2147483648 ≤ x2 ∧ x2 ≤ 2147483647) (q3 : 0 ≤ x3 ∧ x3 < 99990000) (q4 : 0 ≤ x4 ∧ x4 < 1024) (k1 : s.2.1 12 x1.toNat = 0) (hU : s.1 29 3 < 1024) (h_pb : ∀ K : Int → sx_S → Prop, (∀ z u, P1 u → K z u) → CALL 133 [.inr (.inl 55), .inl x3] s K) (hP1 : ∀ u, P1 u → cx_I u ∧ cx_F [(55, 55), (65, 65)] s u) (hQ : ∀ u t, P1 u → cx_I t → cx_F [(29, 32)] u t → dv_w1 x2 (s.2.1 13 x1.toNat) x3 u t → Q 107 [(0, .inr (.inl 55)), (1, .inl (s.2.1 14 x1.toNat)), (2, .inl (s.1 29 3)), (3, .inl (x3 + 1)), (4, .inl (x4 + 1))] t) : sx_wp true sL sx eX10_writeStep CALL [(39, [0]), (74, [0, 1, 2, 3]), (107, [0, 1, 2, 3, 4]), (167, [0, 1, 2, 3]), (212, [0, 1, 2, 3]), (230, [0, 1, 2, 3, 4])] Q R 400 107 [(0, .inr (.inl 55)), (1, .inl x1), (2, .inl x2), (3, .inl x3), (4, .inl x4)] [] s := by
  have h0 := hI.fld 11 6 (by decide) rfl
  have ra := hI.arr 13 (by decide) rfl x1.toNat
  have rb := hI.arr 14 (by decide) rfl x1.toNat
  have zzy : sx_w true (x4 + 1) = x4 + 1 := px_wid (by omega) (by omega)
  have zzl : sx_w true (x3 + 1) = x3 + 1 := px_wid (by omega) (by omega)
  repeat' (first | (with_reducible (rintro _ rfl)) | (with_reducible intro _) | (refine And.intro ?_ ?_) | (refine h_kind x1 s _ hI (by omega) (fun v v1 v2 => ?_); obtain rfl : v = 0 := (v1 p1.1 p1.2).trans k1) | (refine h_pb _ (fun zz u zp => ?_); obtain ⟨zi, zf⟩ := hP1 u zp; have za : u.1 11 = s.1 11 := (zf.same 11 rfl).1; have zb : u.2.1 13 = s.2.1 13 := (zf.same 13 rfl).2; have zc : u.2.1 14 = s.2.1 14 := (zf.same 14 rfl).2; have zd : u.1 29 = s.1 29 := (zf.same 29 rfl).1) | (refine h_head x1 u _ zi (by omega) (fun v v1 v2 => ?_); obtain rfl : v = s.2.1 13 x1.toNat := by rw [v1 p1.1 (by rw [za]; exact p1.2), zb]) | (refine h_with _ _ _ u _ zi (by rw [zd]; exact hU) q2 ra (by omega) (fun t t1 t2 t3 => ?_); rw [zd]; have zz11 : t.1 11 = s.1 11 := (t2.same 11 rfl).1.trans za; have zz14 : t.2.1 14 = s.2.1 14 := (t2.same 14 rfl).2.trans zc) | (refine h_body x1 t _ t1 (by omega) (fun v v1 v2 => ?_); obtain rfl : v = s.2.1 14 x1.toNat := by rw [v1 p1.1 (by rw [zz11]; exact p1.2), zz14]) | (fail))
  all_goals (try dsimp only at *)
  all_goals (first | trivial | assumption | omega | (exfalso; omega) | (have zz9 := hQ _ _ zp t1 t2 t3; rw [← zzy, ← zzl] at zz9; exact zz9) | skip)
theorem w_k_ws107n {CALL : sx_Ca} {sL : Nat} {sx : Nat → Int32} {Q : Nat → sx_L → sx_S → Prop} {R : Int → sx_S → Prop} (h_kind : ∀ (a0 : Int) (s : sx_S) (K : Int → sx_S → Prop), cx_I s → (-2147483648 ≤ a0 ∧ a0 ≤ 2147483647) → (∀ z : Int, (0 ≤ a0 → a0 < s.1 11 6 → z = s.2.1 12 a0.toNat) → (a0 < 0 → z = -1) → K z s) → CALL 91 [.inr (.inl 11), .inl a0] s K) {s : sx_S} {x1 x2 x3 x4 : Int} (hI : cx_I s) (p1 : 0 ≤ x1 ∧ x1 < s.1 11 6) (q4 : 0 ≤ x4 ∧ x4 ≤ 1024) (k1 : s.2.1 12 x1.toNat ≠ 0) (hQ : Q 167 [(0, .inr (.inl 55)), (1, .inl x1), (2, .inl x2), (3, .inl x3)] s) : sx_wp true sL sx eX10_writeStep CALL [(39, [0]), (74, [0, 1, 2, 3]), (107, [0, 1, 2, 3, 4]), (167, [0, 1, 2, 3]), (212, [0, 1, 2, 3]), (230, [0, 1, 2, 3, 4])] Q R 400 107 [(0, .inr (.inl 55)), (1, .inl x1), (2, .inl x2), (3, .inl x3), (4, .inl x4)] [] s := by
  have h0 := hI.fld 11 6 (by decide) rfl
  have rk := hI.arr 12 (by decide) rfl x1.toNat
  repeat' (first | (with_reducible intro _) | (refine And.intro ?_ ?_) | (refine h_kind x1 s _ hI (by omega) (fun v v1 v2 => ?_); obtain rfl := v1 p1.1 p1.2) | (fail))
  all_goals (try dsimp only at *)
  all_goals (first | trivial | assumption | omega | (exfalso; omega) | skip)
theorem w_k_ws167 {CALL : sx_Ca} {sL : Nat} {sx : Nat → Int32} {Q : Nat → sx_L → sx_S → Prop} {R : Int → sx_S → Prop} (h_an : ∀ (s : sx_S) (K : Int → sx_S → Prop), cx_I s → (∀ z : Int, (z = s.1 33 7) → K z s) → CALL 2 [.inr (.inl 33)] s K) (h_ac : ∀ (s : sx_S) (K : Int → sx_S → Prop), cx_I s → (∀ z : Int, (z = s.1 33 8) → K z s) → CALL 3 [.inr (.inl 33)] s K) (h_kind : ∀ (a0 : Int) (s : sx_S) (K : Int → sx_S → Prop), cx_I s → (-2147483648 ≤ a0 ∧ a0 ≤ 2147483647) → (∀ z : Int, (0 ≤ a0 → a0 < s.1 11 6 → z = s.2.1 12 a0.toNat) → (a0 < 0 → z = -1) → K z s) → CALL 91 [.inr (.inl 11), .inl a0] s K) {s : sx_S} {x1 x2 x3 : Int} {P1 : sx_S → Prop} {P2 : sx_S → sx_S → Prop} (q1 : -2147483648 ≤ x1 ∧ x1 ≤ 2147483647) (q2 : -2147483648 ≤ x2 ∧ x2 ≤ 2147483647) (q3 : -2147483648 ≤ x3 ∧ x3 ≤ 2147483647) (h_sl : ∀ K : Int → sx_S → Prop, (∀ u, P1 u → K 0 u) → CALL 5 [.inr (.inl 33), .inl x1, .inl x2] s K) (hP1 : ∀ u, P1 u → cx_I u ∧ 0 ≤ u.1 33 7 ∧ u.1 33 7 < u.1 11 6) (h_pu : ∀ u, P1 u → u.2.1 12 (u.1 33 7).toNat = 3 → ∀ K : Int → sx_S → Prop, (∀ z t, P2 u t → K z t) → CALL 131 [.inr (.inl 55), .inl (u.1 33 7), .inl (u.1 33 8), .inl x3] u K) (hK : ∀ u t, P1 u → u.2.1 12 (u.1 33 7).toNat = 3 → P2 u t → R 0 t) (hQ : ∀ u, P1 u → u.2.1 12 (u.1 33 7).toNat ≠ 3 → Q 212 [(0, .inr (.inl 55)), (1, .inl (u.1 33 7)), (2, .inl (u.1 33 8)), (3, .inl x3)] u) : sx_wp true sL sx eX10_writeStep CALL [(39, [0]), (74, [0, 1, 2, 3]), (107, [0, 1, 2, 3, 4]), (167, [0, 1, 2, 3]), (212, [0, 1, 2, 3]), (230, [0, 1, 2, 3, 4])] Q R 400 167 [(0, .inr (.inl 55)), (1, .inl x1), (2, .inl x2), (3, .inl x3)] [] s := by
  repeat' (first | (with_reducible intro _) | (refine And.intro ?_ ?_) | (refine h_sl _ (fun zu zp => ?_); obtain ⟨zi, za, zb⟩ := hP1 zu zp; have zr7 := zi.fld 33 7 (by decide) rfl; have zr8 := zi.fld 33 8 (by decide) rfl; have zrk := zi.arr 12 (by decide) rfl (zu.1 33 7).toNat) | (refine h_an zu _ zi (fun v v1 => ?_); obtain rfl := v1) | (refine h_ac zu _ zi (fun v v1 => ?_); obtain rfl := v1) | (refine h_kind _ zu _ zi (by omega) (fun v v1 v2 => ?_); obtain rfl := v1 za zb) | (refine h_pu zu zp (by omega) _ (fun zz2 zt2 zp2 => ?_)) | (fail))
  all_goals (try dsimp only at *)
  all_goals (first | trivial | assumption | omega | (exfalso; omega) | (exact hK _ _ zp (by omega) zp2) | (exact hQ _ zp (by omega)) | skip)
theorem w_k_ws212 {CALL : sx_Ca} {sL : Nat} {sx : Nat → Int32} {Q : Nat → sx_L → sx_S → Prop} {R : Int → sx_S → Prop} (h_arity : ∀ (a0 : Int) (s : sx_S) (K : Int → sx_S → Prop), cx_I s → (-2147483648 ≤ a0 ∧ a0 ≤ 2147483647) → (∀ z : Int, (0 ≤ a0 → a0 < s.1 11 6 → z = s.2.1 16 a0.toNat) → (a0 < 0 → z = 0) → K z s) → CALL 94 [.inr (.inl 11), .inl a0] s K) {s : sx_S} {x1 x2 x3 ar : Int} {P1 : sx_S → Prop} (p1 : 0 ≤ x1 ∧ x1 < s.1 11 6) (q1 : x1 ≤ 2147483647) (q2 : -2147483648 ≤ x2 ∧ x2 ≤ 2147483647) (q3 : -2147483648 ≤ x3 ∧ x3 ≤ 2147483647) (ra : s.2.1 16 x1.toNat = ar) (rr : 0 ≤ ar ∧ ar ≤ 4) (h_ph : ∀ K : Int → sx_S → Prop, (∀ z t, P1 t → K z t) → CALL 130 [.inr (.inl 55), .inl x1, .inl x2] s K) (hP1 : ∀ u, P1 u → cx_I u ∧ cx_F [(55, 55), (65, 65)] s u) (hQ : ∀ u, P1 u → Q 230 [(0, .inr (.inl 55)), (1, .inl x1), (2, .inl x2), (3, .inl x3), (4, .inl (ar - 1))] u) : sx_wp true sL sx eX10_writeStep CALL [(39, [0]), (74, [0, 1, 2, 3]), (107, [0, 1, 2, 3, 4]), (167, [0, 1, 2, 3]), (212, [0, 1, 2, 3]), (230, [0, 1, 2, 3, 4])] Q R 400 212 [(0, .inr (.inl 55)), (1, .inl x1), (2, .inl x2), (3, .inl x3)] [] s := by
  have zzy : sx_w true (ar - 1) = ar - 1 := px_wid (by omega) (by omega)
  repeat' (first | (with_reducible intro _) | (refine And.intro ?_ ?_) | (refine h_ph _ (fun zz u zp => ?_); obtain ⟨zi, zf⟩ := hP1 u zp; have za : u.1 11 = s.1 11 := (zf.same 11 rfl).1; have zb : u.2.1 16 = s.2.1 16 := (zf.same 16 rfl).2) | (refine h_arity x1 u _ zi (by omega) (fun v v1 v2 => ?_); obtain rfl : v = ar := by rw [v1 p1.1 (by rw [za]; exact p1.2), zb, ra]) | (fail))
  all_goals (try dsimp only at *)
  all_goals (first | trivial | assumption | omega | (exfalso; omega) | (have zz9 := hQ _ zp; rw [← zzy] at zz9; exact zz9) | skip)
theorem w_k_ws230 {CALL : sx_Ca} {sL : Nat} {sx : Nat → Int32} {Q : Nat → sx_L → sx_S → Prop} {R : Int → sx_S → Prop} (h_dv_mark : ∀ (s : sx_S) (K : Int → sx_S → Prop), cx_I s → (∀ z : Int, (z = s.1 29 3) → K z s) → CALL 44 [.inr (.inl 29)] s K) (h_pair : ∀ (a0 a1 a2 a3 a4 a5 : Int) (s : sx_S) (R : Int → sx_S → Prop), cx_I s → s.1 56 6 < 512 → (-2147483648 ≤ a0 ∧ a0 ≤ 2147483647) → (-2147483648 ≤ a1 ∧ a1 ≤ 2147483647) → (-2147483648 ≤ a2 ∧ a2 ≤ 2147483647) → (-2147483648 ≤ a3 ∧ a3 ≤ 2147483647) → (-2147483648 ≤ a4 ∧ a4 ≤ 2147483647) → (-2147483648 ≤ a5 ∧ a5 ≤ 2147483647) → (∀ z t, cx_I t → cx_F [(56, 62)] s t → dv_pu 56 (a0, a1, a2, a3, a4, a5) s t → R z t) → CALL 61 [.inr (.inl 56), .inl a0, .inl a1, .inl a2, .inl a3, .inl a4, .inl a5] s R) {s : sx_S} {x1 x2 x3 x4 w : Int} (h_arg : 0 ≤ x4 → ∀ K : Int → sx_S → Prop, K w s → CALL 95 [.inr (.inl 11), .inl x1, .inl x4] s K) (hI : cx_I s) (q2 : -2147483648 ≤ x2 ∧ x2 ≤ 2147483647) (q3 : -2147483648 ≤ x3 ∧ x3 ≤ 2147483647) (q4 : -1 ≤ x4 ∧ x4 ≤ 3) (qw : 0 ≤ x4 → 0 ≤ w ∧ w < s.1 11 6) (hN : 0 ≤ x4 → s.1 56 6 < 512) (hK : x4 < 0 → R 0 s) (hQ : 0 ≤ x4 → ∀ t, cx_I t → cx_F [(56, 62)] s t → dv_pu 56 (w, x2, 1, -1, x3, s.1 29 3) s t → Q 230 [(0, .inr (.inl 55)), (1, .inl x1), (2, .inl x2), (3, .inl x3), (4, .inl (x4 - 1))] t) : sx_wp true sL sx eX10_writeStep CALL [(39, [0]), (74, [0, 1, 2, 3]), (107, [0, 1, 2, 3, 4]), (167, [0, 1, 2, 3]), (212, [0, 1, 2, 3]), (230, [0, 1, 2, 3, 4])] Q R 400 230 [(0, .inr (.inl 55)), (1, .inl x1), (2, .inl x2), (3, .inl x3), (4, .inl x4)] [] s := by
  have h0 := hI.fld 11 6 (by decide) rfl
  have h29 := hI.fld 29 3 (by decide) rfl
  have zzy : sx_w true (x4 + (-1)) = x4 - 1 := by rw [px_wid (by omega) (by omega)]; omega
  repeat' (first | (with_reducible (rintro _ rfl)) | (with_reducible intro _) | (refine And.intro ?_ ?_) | (refine h_arg (by omega) _ ?_) | (refine h_dv_mark _ _ hI (fun v v1 => ?_); obtain rfl := v1) | (refine h_pair _ _ _ _ _ _ s _ hI (hN (by omega)) (by have := qw (by omega); omega) q2 (by omega) (by omega) q3 (by omega) (fun z t t1 t2 t3 => ?_)) | (fail))
  all_goals (try dsimp only at *)
  all_goals (first | trivial | assumption | omega | (exfalso; omega) | (exact hK (by omega)) | (have zz9 := hQ (by omega) _ t1 t2 t3; rw [← zzy] at zz9; exact zz9) | skip)
end
section
/-! ===== the desk writes: its pile in memory, and its bytes ===== -/
/-- an entry: (A, c), L, mark; and what it is: 0 a whole term, 1 an ARG, 2 a bracket that closes -/
abbrev wk_I : Type := dv_K × Int
def wk_ws (s : sx_S) (AR : Nat → List Int) : Int → List wk_I → Prop
  | _, [] => True
  | hi, p :: r => (p.1.2.2 ≤ hi ∧ 0 ≤ p.1.2.2) ∧ (s.2.1 59 r.length = p.2 ∧ s.2.1 62 r.length = p.1.2.2) ∧ (p.2 ≠ 2 → dv_at s AR p.1.1.1 (s.2.1 57 r.length) ∧ dv_c s p.1.1.2 p.1.2.2 (s.2.1 58 r.length) ∧ s.2.1 61 r.length = p.1.2.1) ∧ wk_ws s AR p.1.2.2 r
theorem wk_ws_fr {s t : sx_S} {AR AR' : Nat → List Int} {n : Int} (hn : s.1 11 6 ≤ n) (h : dv_nf n AR AR' s t) : ∀ {r : List wk_I} {hi : Int}, (∀ j : Nat, (j : Int) < hi → t.2.1 30 j = s.2.1 30 j ∧ t.2.1 31 j = s.2.1 31 j ∧ t.2.1 32 j = s.2.1 32 j) → (∀ j : Nat, j < r.length → t.2.1 57 j = s.2.1 57 j ∧ t.2.1 58 j = s.2.1 58 j ∧ t.2.1 59 j = s.2.1 59 j ∧ t.2.1 61 j = s.2.1 61 j ∧ t.2.1 62 j = s.2.1 62 j) → wk_ws s AR hi r → wk_ws t AR' hi r
  | [], _, _, _, _ => trivial
  | p :: r, hi, hc, hp, ⟨⟨q1, q2⟩, ⟨q3, q4⟩, q5, q9⟩ => by
    obtain ⟨e1, e2, e3, e5, e6⟩ := hp r.length (by rw [List.length_cons]; omega)
    have hc' : ∀ j : Nat, (j : Int) < p.1.2.2 → t.2.1 30 j = s.2.1 30 j ∧ t.2.1 31 j = s.2.1 31 j ∧ t.2.1 32 j = s.2.1 32 j := fun j hj => hc j (by omega)
    refine ⟨⟨q1, q2⟩, ⟨by rw [e3]; exact q3, by rw [e6]; exact q4⟩, fun hne => ?_, wk_ws_fr hn h hc' (fun j hj => hp j (by rw [List.length_cons]; omega)) q9⟩
    obtain ⟨x1, x2, x3⟩ := q5 hne
    refine ⟨?_, ?_, by rw [e5]; exact x3⟩
    · rw [e1]
      exact dv_at_fr hn h x1
    · rw [e2]
      exact dv_ch_fr hc' x2
theorem wk_ws_hi {s : sx_S} {AR : Nat → List Int} {hi hi' : Int} (h : hi ≤ hi') : ∀ {r : List wk_I}, wk_ws s AR hi r → wk_ws s AR hi' r
  | [], _ => trivial
  | _ :: _, ⟨⟨q1, q2⟩, q3⟩ => ⟨⟨by omega, q2⟩, q3⟩
/-- what is put on paper leaves the pile -/
theorem wk_ws_p {s t : sx_S} {AR : Nat → List Int} {r : List wk_I} {hi : Int} (hF : cx_F [(55, 55), (65, 65)] s t) (h : wk_ws s AR hi r) : wk_ws t AR hi r := wk_ws_fr (Int.le_refl _) (dv_nf_F _ hF (by decide)) (fun j _ => by rw [(hF.same 30 rfl).2, (hF.same 31 rfl).2, (hF.same 32 rfl).2]; exact ⟨rfl, rfl, rfl⟩) (fun j _ => by rw [(hF.same 57 rfl).2, (hF.same 58 rfl).2, (hF.same 59 rfl).2, (hF.same 61 rfl).2, (hF.same 62 rfl).2]; exact ⟨rfl, rfl, rfl, rfl, rfl⟩) h
/-- settling leaves the pile -/
theorem wk_ws_l {s t : sx_S} {AR : Nat → List Int} {r : List wk_I} (hF : cx_F [(29, 33)] s t) (hl : dv_lf s t) (h : wk_ws s AR (s.1 29 3) r) : wk_ws t AR (t.1 29 3) r := wk_ws_hi (hl trivial).1 (wk_ws_fr (Int.le_refl _) (dv_nf_F _ hF (by decide)) (hl trivial).2 (fun j _ => by rw [(hF.same 57 rfl).2, (hF.same 58 rfl).2, (hF.same 59 rfl).2, (hF.same 61 rfl).2, (hF.same 62 rfl).2]; exact ⟨rfl, rfl, rfl, rfl, rfl⟩) h)
/-- an entry is put on the pile -/
theorem wk_ws_pu {s t : sx_S} {AR : Nat → List Int} {r : List wk_I} {z cc o L mk : Int} {A : rf_N} {c : List (Int × Int)} (hF : cx_F [(56, 62)] s t) (hp : dv_pu 56 (z, cc, o, -1, L, mk) s t) (h6 : s.1 56 6 = (r.length : Int)) (m0 : 0 ≤ mk) (hr : wk_ws s AR mk r) (he : o ≠ 2 → dv_at s AR A z ∧ dv_c s c mk cc) : wk_ws t AR mk ((((A, c), L, mk), o) :: r) ∧ t.1 56 6 = (((((A, c), L, mk), o) :: r).length : Int) := by
  obtain ⟨p1, p2, p3, p4, p5, p6, p7, p8⟩ := hp trivial
  have e0 : (s.1 56 6).toNat = r.length := by omega
  have q1 : t.2.1 57 r.length = z := by rw [← e0]; exact p3
  have q2 : t.2.1 58 r.length = cc := by rw [← e0]; exact p4
  have q3 : t.2.1 59 r.length = o := by rw [← e0]; exact p5
  have q5 : t.2.1 61 r.length = L := by rw [← e0]; exact p7
  have q6 : t.2.1 62 r.length = mk := by rw [← e0]; exact p8
  have nf : dv_nf (s.1 11 6) AR AR s t := dv_nf_F _ hF (by decide)
  have lk : ∀ j : Nat, t.2.1 30 j = s.2.1 30 j ∧ t.2.1 31 j = s.2.1 31 j ∧ t.2.1 32 j = s.2.1 32 j := fun j => by
    rw [(hF.same 30 rfl).2, (hF.same 31 rfl).2, (hF.same 32 rfl).2]
    exact ⟨rfl, rfl, rfl⟩
  refine ⟨⟨⟨Int.le_refl _, m0⟩, ⟨q3, q6⟩, fun ho => ?_, wk_ws_fr (Int.le_refl _) nf (fun j _ => lk j) (fun j hj => ?_) hr⟩, ?_⟩
  · obtain ⟨a1, a2⟩ := he ho
    refine ⟨?_, ?_, q5⟩
    · rw [q1]
      exact dv_at_fr (Int.le_refl _) nf a1
    · rw [q2]
      exact dv_ch_fr (fun j _ => lk j) a2
  · obtain ⟨b1, b2, b3, b4, b5, b6⟩ := p2 j (by omega)
    exact ⟨b1, b2, b3, b5, b6⟩
  · rw [List.length_cons]
    have p1' : t.1 56 6 = s.1 56 6 + 1 := p1
    omega
/-- the top of the pile is taken -/
theorem wk_ws_po {s u : sx_S} {AR : Nat → List Int} {p : wk_I} {r : List wk_I} {hi : Int} (hp : wk_po s u) (h6 : s.1 56 6 = ((p :: r).length : Int)) (hw : wk_ws s AR hi (p :: r)) : wk_ws u AR (u.1 29 3) r ∧ u.1 56 6 = (r.length : Int) ∧ u.1 29 3 = p.1.2.2 ∧ u.2.1 59 r.length = p.2 ∧ (p.2 ≠ 2 → dv_at u AR p.1.1.1 (u.2.1 57 r.length) ∧ dv_c u p.1.1.2 (u.1 29 3) (u.2.1 58 r.length) ∧ u.2.1 61 r.length = p.1.2.1) := by
  obtain ⟨o1, hF, o3, o4⟩ := hp trivial
  obtain ⟨⟨q1, q2⟩, ⟨q3, q4⟩, q5, q9⟩ := hw
  rw [List.length_cons] at h6
  have e0 : (s.1 56 6 - 1).toNat = r.length := by omega
  rw [e0, q4] at o4
  have nf : dv_nf (s.1 11 6) AR AR s u := dv_nf_F _ hF (by decide)
  have lk : ∀ j : Nat, u.2.1 30 j = s.2.1 30 j ∧ u.2.1 31 j = s.2.1 31 j ∧ u.2.1 32 j = s.2.1 32 j := fun j => by
    rw [(hF.same 30 rfl).2, (hF.same 31 rfl).2, (hF.same 32 rfl).2]
    exact ⟨rfl, rfl, rfl⟩
  rw [o4]
  refine ⟨wk_ws_fr (Int.le_refl _) nf (fun j _ => lk j) (fun j _ => ?_) q9, by omega, rfl, by rw [(hF.same 59 rfl).2]; exact q3, fun hne => ?_⟩
  · rw [(hF.same 57 rfl).2, (hF.same 58 rfl).2, (hF.same 59 rfl).2, (hF.same 61 rfl).2, (hF.same 62 rfl).2]
    exact ⟨rfl, rfl, rfl, rfl, rfl⟩
  · obtain ⟨x1, x2, x3⟩ := q5 hne
    refine ⟨?_, ?_, by rw [(hF.same 61 rfl).2]; exact x3⟩
    · rw [(hF.same 57 rfl).2]
      exact dv_at_fr (Int.le_refl _) nf x1
    · rw [(hF.same 58 rfl).2]
      exact dv_ch_fr (fun j _ => lk j) x2
section
variable {Ω : Type}
/-- what an entry writes -/
def wk_by (E : we_E Ω) (th : Int → rf_N) (AR : Nat → List Int) (q : wk_I) (w : we_A Ω) : we_A Ω := if q.2 = 2 then we_b E [41] w else if q.2 = 1 then we_gv E.1.1 (wd_v th AR (wd_it q.1)) (we_W E (wd_v th AR (wd_it q.1))).1 q.1.2.1 (we_b E [32] w) else (we_W E (wd_v th AR (wd_it q.1))).1 q.1.2.1 w
/-- what the pile writes -/
def wk_al (E : we_E Ω) (th : Int → rf_N) (AR : Nat → List Int) : List wk_I → we_A Ω → we_A Ω
  | [], w => w
  | q :: l, w => wk_al E th AR l (wk_by E th AR q w)
theorem wk_al_app {E : we_E Ω} {th : Int → rf_N} {AR : Nat → List Int} {l : List wk_I} : ∀ {l' : List wk_I} {w : we_A Ω}, wk_al E th AR (l' ++ l) w = wk_al E th AR l (wk_al E th AR l' w)
  | [], _ => rfl
  | _ :: l', _ => wk_al_app (l' := l')
/-- the ARGs as entries -/
def wk_wz (F : rf_N) (c : List (Int × Int)) (L mk : Int) : List wk_I := (vx_el F).map (fun A => (((A, c), L, mk), 1))
theorem wk_al_wz {E : we_E Ω} {th : Int → rf_N} {AR : Nat → List Int} (hg : ∀ m, vx_on (th m)) {c : List (Int × Int)} {L mk : Int} : ∀ {F : rf_N} {w : we_A Ω}, wk_al E th AR (wk_wz F c L mk) w = (we_W E (vx_val th AR F (dv_lk c) L)).2 L w
  | .leaf, _ => rfl
  | .inner j q u F X, w => by
    have ih := wk_al_wz (E := E) (th := th) (AR := AR) hg (c := c) (L := L) (mk := mk) (F := X) (w := wk_by E th AR (((.inner j q () F .leaf, c), L, mk), 1) w)
    show wk_al E th AR (wk_wz X c L mk) (wk_by E th AR (((.inner j q () F .leaf, c), L, mk), 1) w) = _
    rw [ih, vx_val_1 hg]
    exact ((we_w_sb (vx_val_one hg j q u F (dv_lk c) L) L w).2).symm
theorem wk_lam {E : we_E Ω} {th : Int → rf_N} {AR : Nat → List Int} {j : Nat} {x L : Int} {F : rf_N} {c : List (Int × Int)} {w : we_A Ω} : (we_W E (wd_v th AR (rf_n j 0 x F .leaf, dv_lk c, L))).1 L w = (we_W E (wd_v th AR (F, dv_lk ((x, L) :: c), L + 1))).1 (L + 1) (we_b E (92 :: 120 :: (E.1.2.1 L ++ [46])) w) := by
  have e : wd_v th AR (rf_n j 0 x F .leaf, dv_lk c, L) = rf_n 0 0 0 (wd_v th AR (F, dv_lk ((x, L) :: c), L + 1)) .leaf := by
    rw [dv_lk_up]
    rfl
  rw [e]
  exact we_lam _ _ _ _ _ _
theorem wk_var {E : we_E Ω} {th : Int → rf_N} {AR : Nat → List Int} {j : Nat} {h L : Int} {F : rf_N} {c : List (Int × Int)} {w : we_A Ω} : (we_W E (wd_v th AR (rf_n j 2 h F .leaf, dv_lk c, L))).1 L w = (we_W E (vx_val th AR F (dv_lk c) L)).2 L (we_b E (120 :: E.1.2.1 (dv_lk c h)) w) := by
  have e : wd_v th AR (rf_n j 2 h F .leaf, dv_lk c, L) = rf_n 0 2 (dv_lk c h) (vx_val th AR F (dv_lk c) L) .leaf := rfl
  rw [e]
  exact we_var _ _ _ _ _ _
theorem wk_con {E : we_E Ω} {th : Int → rf_N} {AR : Nat → List Int} {j : Nat} {h L : Int} {F : rf_N} {c : List (Int × Int)} {w : we_A Ω} (h0 : 0 ≤ h) : (we_W E (wd_v th AR (rf_n j 1 h F .leaf, dv_lk c, L))).1 L w = (we_W E (vx_val th AR F (dv_lk c) L)).2 L (we_b E (E.1.2.2 h) w) := by
  have e : wd_v th AR (rf_n j 1 h F .leaf, dv_lk c, L) = rf_n 0 1 h (vx_val th AR F (dv_lk c) L) .leaf := rfl
  rw [e]
  exact we_con _ _ _ _ h0 _ _
/-- an ARG: the blank, the brackets where they are needed -/
theorem wk_arg_y {E : we_E Ω} {th : Int → rf_N} {AR : Nat → List Int} {k : dv_K} {w : we_A Ω} (hb : we_bk (wd_v th AR (wd_it k))) : wk_by E th AR (k, 1) w = we_b E [41] ((we_W E (wd_v th AR (wd_it k))).1 k.2.1 (we_b E [32, 40] w)) := by
  have e : we_b E [32, 40] w = we_b E [40] (we_b E [32] w) := we_bs_app [32] [40] w
  rw [e]
  unfold wk_by
  rw [if_neg (show ¬ (1 : Int) = 2 by decide), if_pos rfl]
  show we_g E.1.1 (wz_q (wd_v th AR (wd_it k))) (wz_F (wd_v th AR (wd_it k))) _ _ _ = _
  unfold we_g
  unfold we_bk at hb
  rw [if_pos hb]
  rfl
theorem wk_arg_n {E : we_E Ω} {th : Int → rf_N} {AR : Nat → List Int} {k : dv_K} {w : we_A Ω} (hb : ¬ we_bk (wd_v th AR (wd_it k))) : wk_by E th AR (k, 1) w = (we_W E (wd_v th AR (wd_it k))).1 k.2.1 (we_b E [32] w) := by
  unfold wk_by
  rw [if_neg (show ¬ (1 : Int) = 2 by decide), if_pos rfl]
  show we_g E.1.1 (wz_q (wd_v th AR (wd_it k))) (wz_F (wd_v th AR (wd_it k))) _ _ _ = _
  unfold we_g
  unfold we_bk at hb
  rw [if_neg hb]
end
end
section
/-! ===== a variable in its long form: the desk's bytes are the value's ===== -/
abbrev wk_pb (c : Int) (o : List Int) : List Int := o ++ [c]
theorem wk_fl : ∀ (l o : List Int), l.foldl (fun o c => wk_pb c o) o = o ++ l
  | [], o => (List.append_nil o).symm
  | c :: l, o => by
    show l.foldl (fun o c => wk_pb c o) (o ++ [c]) = _
    rw [wk_fl l (o ++ [c]), List.append_assoc]
    rfl
theorem wk_bs (l : List Int) (w : we_A (List Int)) : we_bs wk_pb l w = (w.1, w.2 ++ l) := by
  unfold we_bs
  rw [wk_fl]
section
variable {nm : Int → List Int} {hf : Int → List Int → Int → we_A (List Int) → we_A (List Int)}
theorem wk_lm_w {T : rf_N} : ∀ (n : Nat) (L : Int) (w : we_A (List Int)), (we_w wk_pb wb_dg nm hf (vq_lm n T)).1 L w = (we_w wk_pb wb_dg nm hf T).1 (L + (n : Int)) (w.1, w.2 ++ wk_bd L n)
  | 0, L, w => by
    show (we_w wk_pb wb_dg nm hf T).1 L w = (we_w wk_pb wb_dg nm hf T).1 (L + 0) (w.1, w.2 ++ [])
    rw [Int.add_zero, List.append_nil]
  | n + 1, L, w => by
    show (we_w wk_pb wb_dg nm hf (rf_n 0 0 0 (vq_lm n T) .leaf)).1 L w = _
    rw [we_lam, wk_bs, wk_lm_w n (L + 1)]
    have e1 : L + 1 + (n : Int) = L + ((n + 1 : Nat) : Int) := by omega
    have e2 : wk_bd L (n + 1) = (92 :: 120 :: (wb_dg L ++ [46])) ++ wk_bd (L + 1) n := rfl
    rw [e1, e2, ← List.append_assoc]
theorem wk_cv_w {A : rf_T} (hr : ∀ (i M : Int) (w : we_A (List Int)), (we_w wk_pb wb_dg nm hf (vq_row A i M)).2 M w = (w.1, w.2 ++ wk_row A i M)) (n M : Int) (w : we_A (List Int)) : we_gv wk_pb (vq_cv A n M) (we_w wk_pb wb_dg nm hf (vq_cv A n M)).1 M (we_bs wk_pb [32] w) = (w.1, w.2 ++ wk_cv A n M) := by
  by_cases hz : (rf_args A).length = 0
  · have e0 : vq_cv A n M = rf_n 0 2 n (vq_row A M (M + ((rf_args A).length : Int))) .leaf := by
      unfold vq_cv
      rw [hz]
      rfl
    have e1 : wk_cv A n M = 32 :: (120 :: wb_dg n) := by
      unfold wk_cv
      rw [if_pos hz]
    have e2 : vq_row A M (M + ((rf_args A).length : Int)) = .leaf := by
      cases A with
      | leaf => rfl
      | inner z u v X Y =>
        exfalso
        revert hz
        show (X :: rf_args Y).length = 0 → False
        rw [List.length_cons]
        omega
    rw [e0, e1, e2]
    show we_g wk_pb (2, n) .leaf (we_w wk_pb wb_dg nm hf (rf_n 0 2 n .leaf .leaf)).1 M (we_bs wk_pb [32] w) = _
    unfold we_g
    rw [if_neg (show ¬ ((2 : Int) = 0 ∨ rf_len .leaf ≠ 0) from fun c => c.elim (by decide) (fun d => d rfl)), we_var, we_w_0, wk_bs, wk_bs]
    show (w.1, w.2 ++ [32] ++ (120 :: wb_dg n)) = _
    rw [List.append_assoc]
    rfl
  · obtain ⟨k, hk⟩ : ∃ k, (rf_args A).length = k + 1 := ⟨(rf_args A).length - 1, by omega⟩
    have e1 : wk_cv A n M = 32 :: (40 :: (wk_bd M (rf_args A).length ++ ((120 :: wb_dg n) ++ (wk_row A M (M + ((rf_args A).length : Int)) ++ [41])))) := by
      unfold wk_cv
      rw [if_neg hz]
    have e2 : wz_q (vq_cv A n M) = (0, 0) := by
      unfold vq_cv
      rw [hk]
      rfl
    unfold we_gv we_g
    rw [e2, if_pos (Or.inl rfl), e1]
    unfold vq_cv
    rw [wk_lm_w, we_var, hr, wk_bs, wk_bs, wk_bs, wk_bs]
    show (w.1, _) = (w.1, _)
    congr 1
    simp only [List.append_assoc, List.cons_append, List.nil_append]
theorem wk_row_w : ∀ (A : rf_T) (i M : Int) (w : we_A (List Int)), (we_w wk_pb wb_dg nm hf (vq_row A i M)).2 M w = (w.1, w.2 ++ wk_row A i M)
  | .leaf, i, M, w => by
    show w = (w.1, w.2 ++ [])
    rw [List.append_nil]
  | .inner z u v A B, i, M, w => by
    rw [vq_row_in, (we_w_sb (vq_cv_on A i M) M w).2, wk_cv_w (wk_row_w A), wk_row_w B, wk_row_in, List.append_assoc]
theorem wk_rl_w : ∀ (Ts : List rf_T) (Ls : List Int) (M : Int) (w : we_A (List Int)), (we_w wk_pb wb_dg nm hf (vq_rl Ts Ls M)).2 M w = (w.1, w.2 ++ wk_rl Ts Ls M)
  | A :: As, n :: ns, M, w => by
    show (we_w wk_pb wb_dg nm hf (vx_sb (vq_cv A n M) (vq_rl As ns M))).2 M w = (w.1, w.2 ++ (wk_cv A n M ++ wk_rl As ns M))
    rw [(we_w_sb (vq_cv_on A n M) M w).2, wk_cv_w (wk_row_w A), wk_rl_w As ns M, List.append_assoc]
  | [], _, M, w => by
    have e1 : ∀ ns, vq_rl [] ns M = .leaf := fun ns => by unfold vq_rl; rfl
    have e2 : ∀ ns, wk_rl [] ns M = [] := fun ns => by unfold wk_rl; rfl
    rw [e1, e2, we_w_0, List.append_nil]
  | A :: As, [], M, w => by
    have e1 : vq_rl (A :: As) [] M = .leaf := by unfold vq_rl; rfl
    have e2 : wk_rl (A :: As) [] M = [] := by unfold wk_rl; rfl
    rw [e1, e2, we_w_0, List.append_nil]
/-- a hole, as the value writes it -/
theorem wk_hf (ht : Int → List rf_T) (h : Int) (xs : List Int) (dp : Int) (w : we_A (List Int)) : we_hf wk_pb wb_dg nm ht h xs dp w = (wz_ad w.1 h xs, w.2 ++ ((104 :: wb_dg (vx_ii ((wz_ad w.1 h xs).map Prod.fst) h)) ++ wk_rl ((List.range xs.length).map (fun p => (ht h).getD (we_od (we_rw (wz_ad w.1 h xs) h) p) .leaf)) ((List.range xs.length).map (fun p => xs.getD (we_od (we_rw (wz_ad w.1 h xs) h) p) (-1))) dp)) := by
  unfold we_hf
  rw [wk_rl_w, wk_bs]
  show (_, _) = (_, _)
  congr 1
  rw [List.append_assoc]
end
end
