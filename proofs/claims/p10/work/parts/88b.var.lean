/-! ===== the desk puts a variable in its long form ===== -/
def wk_bd (L : Int) : Nat → List Int
  | 0 => []
  | k + 1 => (92 :: 120 :: (wb_dg L ++ [46])) ++ wk_bd (L + 1) k
def wk_row : rf_T → Int → Int → List Int
  | .leaf, _, _ => []
  | .inner _ _ _ A B, i, M => (32 :: (if (rf_args A).length = 0 then 120 :: wb_dg i else 40 :: (wk_bd M (rf_args A).length ++ ((120 :: wb_dg i) ++ (wk_row A M (M + ((rf_args A).length : Int)) ++ [41]))))) ++ wk_row B (i + 1) M
def wk_cv (A : rf_T) (n L : Int) : List Int := 32 :: (if (rf_args A).length = 0 then 120 :: wb_dg n else 40 :: (wk_bd L (rf_args A).length ++ ((120 :: wb_dg n) ++ (wk_row A L (L + ((rf_args A).length : Int)) ++ [41]))))
theorem wk_row_in (z : Nat) (u v : Unit) (A B : rf_T) (i M : Int) : wk_row (.inner z u v A B) i M = wk_cv A i M ++ wk_row B (i + 1) M := rfl
theorem wk_bd_len (L : Int) : ∀ k, (wk_bd L k).length ≤ 14 * k := by
  intro k
  induction k generalizing L with
  | zero => exact Nat.le_refl _
  | succ k ih =>
    have h1 := ih (L + 1)
    have h2 := wb_dg_len L
    show ((92 :: 120 :: (wb_dg L ++ [46])) ++ wk_bd (L + 1) k).length ≤ _
    rw [List.length_append, List.length_cons, List.length_cons, List.length_append]
    show (wb_dg L).length + 1 + 1 + 1 + (wk_bd (L + 1) k).length ≤ _
    omega
theorem wk_len : ∀ (A : rf_T) (n L : Int), (wk_cv A n L).length + 14 ≤ 28 * rf_at A ∧ (wk_row A n L).length + 14 * (rf_args A).length + 28 ≤ 28 * rf_at A
  | .leaf, n, L => by
    have h2 := wb_dg_len n
    refine ⟨?_, by show 0 + 14 * 0 + 28 ≤ 28 * 1; omega⟩
    show (32 :: 120 :: wb_dg n).length + 14 ≤ 28 * 1
    rw [List.length_cons, List.length_cons]
    omega
  | .inner z u v A B, n, L => by
    have hA := wk_len A
    have hB := wk_len B
    have row : ∀ i M, (wk_row (.inner z u v A B) i M).length + 14 * (rf_args (.inner z u v A B)).length + 28 ≤ 28 * rf_at (.inner z u v A B) := fun i M => by
      rw [wk_row_in, List.length_append]
      have h1 := (hA i M).1
      have h2 := (hB (i + 1) M).2
      show _ + 14 * ((rf_args B).length + 1) + 28 ≤ 28 * (rf_at A + rf_at B)
      omega
    refine ⟨?_, row n L⟩
    have h1 := row L (L + ((rf_args (.inner z u v A B)).length : Int))
    have h2 := wb_dg_len n
    have h3 := wk_bd_len L (rf_args (.inner z u v A B)).length
    unfold wk_cv
    rw [if_neg (by show ¬ ((rf_args B).length + 1 = 0); omega)]
    simp only [List.length_cons, List.length_append, List.length_nil]
    omega
/-- the shape of a type of the desk -/
def wk_ty (s : sx_S) : rf_T → Int → Prop
  | .leaf, z => (z < 2 ∨ s.1 8 2 ≤ z) ∧ (-2147483648 ≤ z ∧ z ≤ 2147483647)
  | .inner _ _ _ A B, z => (2 ≤ z ∧ z < s.1 8 2) ∧ wk_ty s A (s.2.1 9 z.toNat) ∧ wk_ty s B (s.2.1 10 z.toNat)
theorem wk_ty_c {s t : sx_S} (h8 : t.1 8 2 = s.1 8 2) (h9 : t.2.1 9 = s.2.1 9) (h10 : t.2.1 10 = s.2.1 10) : ∀ {A : rf_T} {z : Int}, wk_ty s A z → wk_ty t A z
  | .leaf, _, h => by
    unfold wk_ty at h ⊢
    rw [h8]
    exact h
  | .inner _ _ _ A B, z, ⟨h1, h2, h3⟩ => ⟨by rw [h8]; exact h1, by rw [h9]; exact wk_ty_c h8 h9 h10 h2, by rw [h10]; exact wk_ty_c h8 h9 h10 h3⟩
theorem wk_ty_dx {s : sx_S} : ∀ {T : qx_T} {z : Int}, dx_is s T z → wk_ty s (qx_sh T) z
  | .leaf, z, h => by
    have h' : z = 0 := h
    exact ⟨Or.inl (by omega), by omega, by omega⟩
  | .inner j k _ x y, z, h => by
    obtain ⟨_, h⟩ := h
    cases k with
    | true =>
      rcases h with ⟨_, _, _, h⟩ | ⟨h, _⟩
      · exact ⟨Or.inl (by omega), by omega, by omega⟩
      · cases h
    | false =>
      rcases h with ⟨h, _⟩ | ⟨_, h1, h2, h3⟩
      · cases h
      · exact ⟨h1, wk_ty_dx h2, wk_ty_dx h3⟩
theorem wk_ty_r {s : sx_S} (hI : cx_I s) {A : rf_T} {z : Int} (h : wk_ty s A z) : -2147483648 ≤ z ∧ z ≤ 2147483647 := by
  cases A with
  | leaf => exact h.2
  | inner n u v x y =>
    have h1 := h.1
    have := hI.fld 8 2 (by decide) rfl
    omega
theorem w_k_vy {CALL : sx_Ca} {sL : Nat} {sx : Nat → Int32} {Q : Nat → sx_L → sx_S → Prop} {R : Int → sx_S → Prop} {s : sx_S} {a0 a1 a2 a3 : Int} {P1 : sx_S → Prop} {P2 : sx_S → sx_S → Prop} (p0 : -2147483648 ≤ a0 ∧ a0 ≤ 2147483647) (p1 : -2147483648 ≤ a1 ∧ a1 ≤ 2147483647) (p2 : -2147483648 ≤ a2 ∧ a2 ≤ 2147483647) (p3 : 0 ≤ a3 ∧ a3 ≤ 4) (hA : ∀ K : Int → sx_S → Prop, K 1 s → CALL 116 [.inr (.inl 8), .inl a1] s K) (h1 : ∀ K : Int → sx_S → Prop, (∀ z t, P1 t → K z t) → CALL 135 [.inr (.inl 55), .inl 32] s K) (h2 : ∀ t, P1 t → ∀ K : Int → sx_S → Prop, (∀ z t2, P2 t t2 → K z t2) → CALL 135 [.inr (.inl 55), .inl 40] t K) (hQ : ∀ t t2, P1 t → P2 t t2 → Q 50 [(0, .inr (.inl 55)), (1, .inl a0), (2, .inl a1), (3, .inl a2), (4, .inl a3), (5, .inl 1), (6, .inl a2), (7, .inl a1), (8, .inl 0)] t2) : sx_wp true sL sx eX10_putVariable CALL [(50, [0, 1, 2, 3, 4, 5, 6, 7, 8]), (116, [0, 4, 5, 6, 7, 8])] Q R 400 0 (sx_argsF 0 [.inr (.inl 55), .inl a0, .inl a1, .inl a2, .inl a3]) [] s := by
  repeat' (first | (with_reducible intro _) | (refine And.intro ?_ ?_) | (refine hA _ ?_) | (refine h1 _ (fun zz1 zt1 zp1 => ?_)) | (refine h2 zt1 zp1 _ (fun zz2 zt2 zp2 => ?_)) | (fail))
  all_goals (try dsimp only at *)
  all_goals (first | trivial | assumption | omega | (exfalso; omega) | (exact hQ _ _ zp1 zp2) | skip)
theorem w_k_vn {CALL : sx_Ca} {sL : Nat} {sx : Nat → Int32} {Q : Nat → sx_L → sx_S → Prop} {R : Int → sx_S → Prop} {s : sx_S} {a0 a1 a2 a3 : Int} {P1 : sx_S → Prop} (p0 : -2147483648 ≤ a0 ∧ a0 ≤ 2147483647) (p1 : -2147483648 ≤ a1 ∧ a1 ≤ 2147483647) (p2 : -2147483648 ≤ a2 ∧ a2 ≤ 2147483647) (p3 : 0 ≤ a3 ∧ a3 ≤ 4) (hA : ∀ K : Int → sx_S → Prop, K 0 s → CALL 116 [.inr (.inl 8), .inl a1] s K) (h1 : ∀ K : Int → sx_S → Prop, (∀ z t, P1 t → K z t) → CALL 135 [.inr (.inl 55), .inl 32] s K) (hQ : ∀ t, P1 t → Q 50 [(0, .inr (.inl 55)), (1, .inl a0), (2, .inl a1), (3, .inl a2), (4, .inl a3), (5, .inl 0), (6, .inl a2), (7, .inl a1), (8, .inl 0)] t) : sx_wp true sL sx eX10_putVariable CALL [(50, [0, 1, 2, 3, 4, 5, 6, 7, 8]), (116, [0, 4, 5, 6, 7, 8])] Q R 400 0 (sx_argsF 0 [.inr (.inl 55), .inl a0, .inl a1, .inl a2, .inl a3]) [] s := by
  repeat' (first | (with_reducible intro _) | (refine And.intro ?_ ?_) | (refine hA _ ?_) | (refine h1 _ (fun zz1 zt1 zp1 => ?_)) | (fail))
  all_goals (try dsimp only at *)
  all_goals (first | trivial | assumption | omega | (exfalso; omega) | (exact hQ _ zp1) | skip)
theorem w_k_v50y {CALL : sx_Ca} {sL : Nat} {sx : Nat → Int32} {Q : Nat → sx_L → sx_S → Prop} {R : Int → sx_S → Prop} {s : sx_S} {a0 a1 a2 a3 x6 x7 x8 r : Int} {P1 : sx_S → Prop} (p6 : 0 ≤ x6 ∧ x6 ≤ 99999999) (p7 : -2147483648 ≤ x7 ∧ x7 ≤ 2147483647) (p8 : 0 ≤ x8 ∧ x8 < 4) (hA : ∀ K : Int → sx_S → Prop, K 1 s → CALL 116 [.inr (.inl 8), .inl x7] s K) (h1 : ∀ K : Int → sx_S → Prop, (∀ z t, P1 t → K z t) → CALL 133 [.inr (.inl 55), .inl x6] s K) (hT : ∀ t, P1 t → ∀ K : Int → sx_S → Prop, K r t → CALL 118 [.inr (.inl 8), .inl x7] t K) (rr : -2147483648 ≤ r ∧ r ≤ 2147483647) (hQ : ∀ t, P1 t → Q 50 [(0, .inr (.inl 55)), (1, .inl a0), (2, .inl a1), (3, .inl a2), (4, .inl a3), (5, .inl 1), (6, .inl (x6 + 1)), (7, .inl r), (8, .inl (x8 + 1))] t) : sx_wp true sL sx eX10_putVariable CALL [(50, [0, 1, 2, 3, 4, 5, 6, 7, 8]), (116, [0, 4, 5, 6, 7, 8])] Q R 400 50 [(0, .inr (.inl 55)), (1, .inl a0), (2, .inl a1), (3, .inl a2), (4, .inl a3), (5, .inl 1), (6, .inl x6), (7, .inl x7), (8, .inl x8)] [] s := by
  have zz6 : sx_w true (x6 + 1) = x6 + 1 := px_wid (by omega) (by omega)
  have zz8 : sx_w true (x8 + 1) = x8 + 1 := px_wid (by omega) (by omega)
  rw [← zz6, ← zz8] at hQ
  repeat' (first | (with_reducible intro _) | (refine And.intro ?_ ?_) | (refine hA _ ?_) | (refine h1 _ (fun zz1 zt1 zp1 => ?_)) | (refine hT zt1 zp1 _ ?_) | (fail))
  all_goals (try dsimp only at *)
  all_goals (first | trivial | assumption | omega | (exfalso; omega) | (exact hQ _ zp1) | skip)
theorem w_k_v50n {CALL : sx_Ca} {sL : Nat} {sx : Nat → Int32} {Q : Nat → sx_L → sx_S → Prop} {R : Int → sx_S → Prop} {s : sx_S} {a0 a1 a2 a3 x5 x6 x7 x8 : Int} {P1 : sx_S → Prop} {P2 : sx_S → sx_S → Prop} (p0 : 0 ≤ a0 ∧ a0 ≤ 99999999) (p1 : -2147483648 ≤ a1 ∧ a1 ≤ 2147483647) (p2 : -2147483648 ≤ a2 ∧ a2 ≤ 2147483647) (p5 : x5 = 0 ∨ x5 = 1) (p7 : -2147483648 ≤ x7 ∧ x7 ≤ 2147483647) (p8 : 0 ≤ x8 ∧ x8 ≤ 4) (hA : x5 = 1 → ∀ K : Int → sx_S → Prop, K 0 s → CALL 116 [.inr (.inl 8), .inl x7] s K) (h1 : ∀ K : Int → sx_S → Prop, (∀ z t, P1 t → K z t) → CALL 135 [.inr (.inl 55), .inl 120] s K) (h2 : ∀ t, P1 t → ∀ K : Int → sx_S → Prop, (∀ z t2, P2 t t2 → K z t2) → CALL 134 [.inr (.inl 55), .inl a0] t K) (hQ : ∀ t t2, P1 t → P2 t t2 → Q 116 [(0, .inr (.inl 55)), (4, .inl a3), (5, .inl x5), (6, .inl x6), (7, .inl a1), (8, .inl a2)] t2) : sx_wp true sL sx eX10_putVariable CALL [(50, [0, 1, 2, 3, 4, 5, 6, 7, 8]), (116, [0, 4, 5, 6, 7, 8])] Q R 400 50 [(0, .inr (.inl 55)), (1, .inl a0), (2, .inl a1), (3, .inl a2), (4, .inl a3), (5, .inl x5), (6, .inl x6), (7, .inl x7), (8, .inl x8)] [] s := by
  rcases p5 with p5 | p5 <;> subst p5
  all_goals (repeat' (first | (with_reducible intro _) | (refine And.intro ?_ ?_) | (refine hA rfl _ ?_) | (refine h1 _ (fun zz1 zt1 zp1 => ?_)) | (refine h2 zt1 zp1 _ (fun zz2 zt2 zp2 => ?_)) | (fail)))
  all_goals (try dsimp only at *)
  all_goals (first | trivial | assumption | omega | (exfalso; omega) | (exact hQ _ _ zp1 zp2) | skip)
theorem w_k_v116y {CALL : sx_Ca} {sL : Nat} {sx : Nat → Int32} {Q : Nat → sx_L → sx_S → Prop} {R : Int → sx_S → Prop} {s : sx_S} {a3 x5 x6 x7 x8 f r : Int} {P1 : sx_S → Prop} (p3 : 0 ≤ a3 ∧ a3 ≤ 4) (p6 : 0 ≤ x6 ∧ x6 ≤ 99999999) (p7 : -2147483648 ≤ x7 ∧ x7 ≤ 2147483647) (p8 : 0 ≤ x8 ∧ x8 < x6) (hF : ∀ K : Int → sx_S → Prop, K f s → CALL 117 [.inr (.inl 8), .inl x7] s K) (rf' : -2147483648 ≤ f ∧ f ≤ 2147483647) (hV : ∀ y, y = a3 + 1 → ∀ K : Int → sx_S → Prop, (∀ z t, P1 t → K z t) → CALL 132 [.inr (.inl 55), .inl x8, .inl f, .inl x6, .inl y] s K) (hT : ∀ t, P1 t → ∀ K : Int → sx_S → Prop, K r t → CALL 118 [.inr (.inl 8), .inl x7] t K) (rr : -2147483648 ≤ r ∧ r ≤ 2147483647) (hQ : ∀ t, P1 t → Q 116 [(0, .inr (.inl 55)), (4, .inl a3), (5, .inl x5), (6, .inl x6), (7, .inl r), (8, .inl (x8 + 1))] t) : sx_wp true sL sx eX10_putVariable CALL [(50, [0, 1, 2, 3, 4, 5, 6, 7, 8]), (116, [0, 4, 5, 6, 7, 8])] Q R 400 116 [(0, .inr (.inl 55)), (4, .inl a3), (5, .inl x5), (6, .inl x6), (7, .inl x7), (8, .inl x8)] [] s := by
  have zz3 : sx_w true (a3 + 1) = a3 + 1 := px_wid (by omega) (by omega)
  have zz8 : sx_w true (x8 + 1) = x8 + 1 := px_wid (by omega) (by omega)
  rw [← zz8] at hQ
  repeat' (first | (with_reducible intro _) | (refine And.intro ?_ ?_) | (refine hF _ ?_) | (refine hV _ zz3 _ (fun zz1 zt1 zp1 => ?_)) | (refine hT zt1 zp1 _ ?_) | (fail))
  all_goals (try dsimp only at *)
  all_goals (first | trivial | assumption | omega | (exfalso; omega) | (exact hQ _ zp1) | skip)
theorem w_k_v116n {CALL : sx_Ca} {sL : Nat} {sx : Nat → Int32} {Q : Nat → sx_L → sx_S → Prop} {R : Int → sx_S → Prop} {s : sx_S} {a3 x5 x6 x7 x8 : Int} {P1 : sx_S → Prop} (p5 : x5 = 0 ∨ x5 = 1) (p6 : 0 ≤ x6 ∧ x6 ≤ 99999999) (p8 : x6 ≤ x8 ∧ x8 ≤ 99999999) (h1 : x5 = 1 → ∀ K : Int → sx_S → Prop, (∀ z t, P1 t → K z t) → CALL 135 [.inr (.inl 55), .inl 41] s K) (hK0 : x5 = 0 → R 0 s) (hK1 : x5 = 1 → ∀ t, P1 t → R 0 t) : sx_wp true sL sx eX10_putVariable CALL [(50, [0, 1, 2, 3, 4, 5, 6, 7, 8]), (116, [0, 4, 5, 6, 7, 8])] Q R 400 116 [(0, .inr (.inl 55)), (4, .inl a3), (5, .inl x5), (6, .inl x6), (7, .inl x7), (8, .inl x8)] [] s := by
  rcases p5 with p5 | p5 <;> subst p5
  all_goals (repeat' (first | (with_reducible intro _) | (refine And.intro ?_ ?_) | (refine h1 rfl _ (fun zz1 zt1 zp1 => ?_)) | (fail)))
  all_goals (try dsimp only at *)
  all_goals (first | trivial | assumption | omega | (exfalso; omega) | (exact hK0 rfl) | (exact hK1 rfl _ zp1) | skip)
