section
/-! ===== the desk puts a variable in its long form: all of it ===== -/
theorem wk_PT_ty {s t : sx_S} {l : List Int} (h : wk_PT s t l) {A : rf_T} {z : Int} (g : wk_ty s A z) : wk_ty t A z := wk_ty_c (by rw [(h.2.1.same 8 rfl).1]) (h.2.1.same 9 rfl).2 (h.2.1.same 10 rfl).2 g
theorem wk_isA {sL : Nat} {sx : Nat → Int32} (hsL : sL ≤ 3072) (d : Nat) (hd : 2 ≤ d) {s : sx_S} {A : rf_T} {z : Int} {K : Int → sx_S → Prop} (hI : cx_I s) (h : wk_ty s A z) (h1 : (rf_args A).length ≠ 0 → K 1 s) (h0 : (rf_args A).length = 0 → K 0 s) : sx_C sL sx d 116 [.inr (.inl 8), .inl z] s K := by
  refine c_dz_isA hsL d hd z s K hI (wk_ty_r hI h) (fun w w0 w1 w2 => ?_)
  cases A with
  | leaf =>
    have e : w = 0 := by
      apply Classical.byContradiction
      intro q
      have := w1 q
      have := h.1
      omega
    rw [e]
    exact h0 rfl
  | inner n u v x y =>
    have e : w = 1 := by
      have : w ≠ 0 := fun q => by
        have := w2 q
        have := h.1
        omega
      omega
    rw [e]
    exact h1 (by show (rf_args y).length + 1 ≠ 0; omega)
theorem st_k_putV {sL : Nat} {sx : Nat → Int32} (hsL : sL ≤ 3072) (m : Nat) {d : Nat} (hd : 6 ≤ d) (h_rec : ∀ m', m = m' + 1 → ∀ (A : rf_T) (a0 a1 a2 a3 : Int) (s : sx_S) (K : Int → sx_S → Prop), cx_I s → wk_ty s A a1 → rf_at A ≤ m' → (0 ≤ a3 ∧ a3 + (rf_at A : Int) ≤ 5) → (0 ≤ a0 ∧ a0 ≤ 99990000) → (0 ≤ a2 ∧ a2 + 5 * (rf_at A : Int) ≤ 99990000) → s.1 55 10 + ((wk_cv A a0 a2).length : Int) ≤ 999990000 → (∀ z t, wk_PT s t (wk_cv A a0 a2) → K z t) → sx_C sL sx (d + 1) 132 [.inr (.inl 55), .inl a0, .inl a1, .inl a2, .inl a3] s K) : ∀ (A : rf_T) (a0 a1 a2 a3 : Int) (s : sx_S) (K : Int → sx_S → Prop), cx_I s → wk_ty s A a1 → rf_at A ≤ m → (0 ≤ a3 ∧ a3 + (rf_at A : Int) ≤ 5) → (0 ≤ a0 ∧ a0 ≤ 99990000) → (0 ≤ a2 ∧ a2 + 5 * (rf_at A : Int) ≤ 99990000) → s.1 55 10 + ((wk_cv A a0 a2).length : Int) ≤ 999990000 → (∀ z t, wk_PT s t (wk_cv A a0 a2) → K z t) → sx_C sL sx (d + 2) 132 [.inr (.inl 55), .inl a0, .inl a1, .inl a2, .inl a3] s K := by
  intro A a0 a1 a2 a3 s K hI hT hm p3 p0 p2 hlen hK
  have hap := rf_at_pos A
  have hak := rf_args_at A
  have r10 := hI.fld 55 10 (by decide) rfl
  have hr1 := wk_ty_r hI hT
  have hx5 : ∃ x5 : Int, (x5 = 0 ∧ (rf_args A).length = 0) ∨ (x5 = 1 ∧ (rf_args A).length ≠ 0) := by
    by_cases c : (rf_args A).length = 0
    · exact ⟨0, Or.inl ⟨rfl, c⟩⟩
    · exact ⟨1, Or.inr ⟨rfl, c⟩⟩
  obtain ⟨x5, hx5⟩ := hx5
  have hcv : ∃ op cl : List Int, wk_cv A a0 a2 = op ++ (wk_bd a2 (rf_args A).length ++ ((120 :: wb_dg a0) ++ (wk_row A a2 (a2 + ((rf_args A).length : Int)) ++ cl))) ∧ ((x5 = 0 ∧ op = [32] ∧ cl = []) ∨ (x5 = 1 ∧ op = [32, 40] ∧ cl = [41])) := by
    rcases hx5 with ⟨e1, e2⟩ | ⟨e1, e2⟩
    · refine ⟨[32], [], ?_, Or.inl ⟨e1, rfl, rfl⟩⟩
      have eA : A = .leaf := by
        cases A with
        | leaf => rfl
        | inner n u v x y =>
          have e2' : (rf_args y).length + 1 = 0 := e2
          omega
      subst eA
      show 32 :: 120 :: wb_dg a0 = 32 :: ([] ++ ((120 :: wb_dg a0) ++ ([] ++ [])))
      simp
    · refine ⟨[32, 40], [41], ?_, Or.inr ⟨e1, rfl, rfl⟩⟩
      unfold wk_cv
      rw [if_neg e2]
      rfl
  obtain ⟨op, cl, ecv, hoc⟩ := hcv
  have hlens := congrArg List.length ecv
  simp only [List.length_append, List.length_cons] at hlens
  have x01 : x5 = 0 ∨ x5 = 1 := by rcases hx5 with q | q <;> omega
  refine sx_methL (wr := true) (n := 400) (n' := 400) (stop := [(50, [0, 1, 2, 3, 4, 5, 6, 7, 8]), (116, [0, 4, 5, 6, 7, 8])]) (fun n pc ls u => (pc = 50 ∧ ∃ (x6 x7 x8 : Int) (B : rf_T) (l : List Int), ls = [(0, .inr (.inl 55)), (1, .inl a0), (2, .inl a1), (3, .inl a2), (4, .inl a3), (5, .inl x5), (6, .inl x6), (7, .inl x7), (8, .inl x8)] ∧ wk_PT s u l ∧ wk_ty u B x7 ∧ (x6 = a2 + x8 ∧ 0 ≤ x8 ∧ x8 + ((rf_args B).length : Int) = ((rf_args A).length : Int)) ∧ l ++ (wk_bd x6 (rf_args B).length ++ ((120 :: wb_dg a0) ++ (wk_row A a2 (a2 + ((rf_args A).length : Int)) ++ cl))) = wk_cv A a0 a2 ∧ n = 100 + (rf_args B).length) ∨ (pc = 116 ∧ ∃ (x7 x8 : Int) (B : rf_T) (l : List Int), ls = [(0, .inr (.inl 55)), (4, .inl a3), (5, .inl x5), (6, .inl (a2 + ((rf_args A).length : Int))), (7, .inl x7), (8, .inl x8)] ∧ wk_PT s u l ∧ wk_ty u B x7 ∧ (a2 ≤ x8 ∧ x8 + ((rf_args B).length : Int) = a2 + ((rf_args A).length : Int)) ∧ rf_at B ≤ rf_at A ∧ l ++ (wk_row B x8 (a2 + ((rf_args A).length : Int)) ++ cl) = wk_cv A a0 a2 ∧ n = (rf_args B).length)) hsL (e := eX10_putVariable) rfl ?_ ?_
  · rcases hx5 with ⟨e1, e2⟩ | ⟨e1, e2⟩
    · refine w_k_vn (P1 := fun t => wk_PT s t [32]) (by omega) hr1 (by omega) (by omega) (fun K' hK' => wk_isA hsL (d + 1) (by omega) hI hT (fun q => absurd e2 q) (fun _ => hK')) (fun K' hK' => c_k_put hsL (d + 1) (by omega) 32 s K' hI (by omega) (by omega) hK') (fun t ht => ?_)
      refine ⟨_, Or.inl ⟨rfl, a2, a1, 0, A, [32], by rw [e1], ht, wk_PT_ty ht hT, ⟨by omega, by omega, by omega⟩, ?_, rfl⟩⟩
      rcases hoc with ⟨_, o1, _⟩ | ⟨q, _⟩
      · rw [ecv, o1]
      · omega
    · refine w_k_vy (P1 := fun t => wk_PT s t [32]) (P2 := fun t t2 => wk_PT t t2 [40]) (by omega) hr1 (by omega) (by omega) (fun K' hK' => wk_isA hsL (d + 1) (by omega) hI hT (fun _ => hK') (fun q => absurd q e2)) (fun K' hK' => c_k_put hsL (d + 1) (by omega) 32 s K' hI (by omega) (by omega) hK') (fun t ht K' hK' => ?_) (fun t t2 ht ht2 => ?_)
      · have e3 : t.1 55 10 = s.1 55 10 + 1 := ht.2.2.2.1
        exact c_k_put hsL (d + 1) (by omega) 40 t K' ht.1 (by omega) (by omega) hK'
      · have hp : wk_PT s t2 [32, 40] := wk_PT_t ht ht2
        refine ⟨_, Or.inl ⟨rfl, a2, a1, 0, A, [32, 40], by rw [e1], hp, wk_PT_ty hp hT, ⟨by omega, by omega, by omega⟩, ?_, rfl⟩⟩
        rcases hoc with ⟨q, _⟩ | ⟨_, o1, _⟩
        · omega
        · rw [ecv, o1]
  · rintro n pc ls u (⟨rfl, x6, x7, x8, B, l, rfl, hu, hB, ⟨h6, h8, hBl⟩, hl, rfl⟩ | ⟨rfl, x7, x8, B, l, rfl, hu, hB, ⟨h8, hBl⟩, hBA, hl, rfl⟩)
    · have hll := congrArg List.length hl
      simp only [List.length_append, List.length_cons] at hll
      have hu10 := hu.2.2.2.1
      have hr7 := wk_ty_r hu.1 hB
      by_cases c : (rf_args B).length = 0
      · refine w_k_v50n (P1 := fun t => wk_PT u t [120]) (P2 := fun t t2 => wk_PT t t2 (wb_dg a0)) (by omega) hr1 (by omega) x01 hr7 (by omega) (fun _ K' hK' => wk_isA hsL (d + 1) (by omega) hu.1 hB (fun q => absurd c q) (fun _ => hK')) (fun K' hK' => c_k_put hsL (d + 1) (by omega) 120 u K' hu.1 (by omega) (by omega) hK') (fun t ht K' hK' => ?_) (fun t t2 ht ht2 => ?_)
        · have e3 : t.1 55 10 = u.1 55 10 + 1 := ht.2.2.2.1
          exact c_k_putN hsL (d + 1) (by omega) a0 t K' ht.1 (by omega) (by omega) hK'
        · have hp : wk_PT s t2 (l ++ (120 :: wb_dg a0)) := wk_PT_t hu (wk_PT_t ht ht2)
          refine ⟨(rf_args A).length, by omega, Or.inr ⟨rfl, a1, a2, A, l ++ (120 :: wb_dg a0), ?_, hp, wk_PT_ty hp hT, ⟨by omega, by omega⟩, Nat.le_refl _, ?_, rfl⟩⟩
          · rw [show x6 = a2 + ((rf_args A).length : Int) by omega]
          · rw [← hl, c, List.append_assoc]
            rfl
      · cases B with
        | leaf => exact absurd rfl c
        | inner bn bu bv B1 B2 =>
          obtain ⟨b1, b2, b3⟩ := hB
          have eb : (rf_args (.inner bn bu bv B1 B2)).length = (rf_args B2).length + 1 := rfl
          have ebd : wk_bd x6 (rf_args (.inner bn bu bv B1 B2)).length = (92 :: 120 :: (wb_dg x6 ++ [46])) ++ wk_bd (x6 + 1) (rf_args B2).length := rfl
          have ex5 : x5 = 1 := by
            rcases hx5 with ⟨_, q⟩ | ⟨q, _⟩
            · omega
            · exact q
          have dl := wb_dg_len x6
          rw [ex5]
          have hbl : (92 :: 120 :: (wb_dg x6 ++ [46])).length + (wk_bd (x6 + 1) (rf_args B2).length).length = (wk_bd x6 (rf_args (.inner bn bu bv B1 B2)).length).length := by rw [ebd, List.length_append]
          refine w_k_v50y (r := u.2.1 10 x7.toNat) (P1 := fun t => wk_PT u t (92 :: 120 :: (wb_dg x6 ++ [46]))) (by omega) hr7 (by omega) (fun K' hK' => wk_isA hsL (d + 1) (by omega) hu.1 (A := .inner bn bu bv B1 B2) ⟨b1, b2, b3⟩ (fun _ => hK') (fun q => absurd q c)) (fun K' hK' => c_k_putB hsL (d + 1) (by omega) x6 u K' hu.1 (by omega) (by omega) hK') (fun t ht K' hK' => ?_) (wk_ty_r hu.1 b3) (fun t ht => ?_)
          · refine c_dz_to hsL (d + 1) (by omega) x7 t K' ht.1 hr7 (fun z z1 _ => ?_)
            rw [z1 b1.1 (by rw [(ht.2.1.same 8 rfl).1]; exact b1.2), (ht.2.1.same 10 rfl).2]
            exact hK'
          · have hp : wk_PT s t (l ++ (92 :: 120 :: (wb_dg x6 ++ [46]))) := wk_PT_t hu ht
            refine ⟨100 + (rf_args B2).length, by omega, Or.inl ⟨rfl, x6 + 1, u.2.1 10 x7.toNat, x8 + 1, B2, l ++ (92 :: 120 :: (wb_dg x6 ++ [46])), rfl, hp, wk_PT_ty ht b3, ⟨by omega, by omega, by omega⟩, ?_, rfl⟩⟩
            rw [← hl, ebd]
            simp only [List.append_assoc]
    · have hll := congrArg List.length hl
      simp only [List.length_append] at hll
      have hu10 := hu.2.2.2.1
      have hr7 := wk_ty_r hu.1 hB
      cases B with
      | leaf =>
        have e0 : (rf_args (.leaf : rf_T)).length = 0 := rfl
        rw [e0] at hBl
        have erow : wk_row .leaf x8 (a2 + ((rf_args A).length : Int)) = [] := rfl
        rw [erow] at hl hll
        refine w_k_v116n (P1 := fun t => wk_PT u t [41]) x01 (by omega) (by omega) (fun q K' hK' => ?_) (fun q => hK 0 u ?_) (fun q t ht => hK 0 t ?_)
        · refine c_k_put hsL (d + 1) (by omega) 41 u K' hu.1 (by omega) ?_ hK'
          have : (([] : List Int).length) = 0 := rfl
          omega
        · rcases hoc with ⟨_, _, o2⟩ | ⟨q', _⟩
          · rw [o2] at hl
            simp only [List.append_nil, List.nil_append] at hl
            rw [← hl]
            exact hu
          · omega
        · rcases hoc with ⟨q', _⟩ | ⟨_, _, o2⟩
          · omega
          · rw [o2] at hl
            simp only [List.nil_append] at hl
            rw [← hl]
            exact wk_PT_t hu ht
      | inner bn bu bv B1 B2 =>
        obtain ⟨b1, b2, b3⟩ := hB
        have eb : (rf_args (.inner bn bu bv B1 B2)).length = (rf_args B2).length + 1 := rfl
        have ea : rf_at (.inner bn bu bv B1 B2) = rf_at B1 + rf_at B2 := rfl
        have pb1 := rf_at_pos B1
        have pb2 := rf_at_pos B2
        have erow := wk_row_in bn bu bv B1 B2 x8 (a2 + ((rf_args A).length : Int))
        have hrl : (wk_row (.inner bn bu bv B1 B2) x8 (a2 + ((rf_args A).length : Int))).length = (wk_cv B1 x8 (a2 + ((rf_args A).length : Int))).length + (wk_row B2 (x8 + 1) (a2 + ((rf_args A).length : Int))).length := by rw [erow, List.length_append]
        obtain ⟨m', em⟩ : ∃ m', m = m' + 1 := ⟨m - 1, by omega⟩
        refine w_k_v116y (f := u.2.1 9 x7.toNat) (r := u.2.1 10 x7.toNat) (P1 := fun t => wk_PT u t (wk_cv B1 x8 (a2 + ((rf_args A).length : Int)))) (by omega) (by omega) hr7 (by omega) (fun K' hK' => ?_) (wk_ty_r hu.1 b2) (fun y hy K' hK' => ?_) (fun t ht K' hK' => ?_) (wk_ty_r hu.1 b3) (fun t ht => ?_)
        · refine c_dz_from hsL (d + 1) (by omega) x7 u K' hu.1 hr7 (fun z z1 _ => ?_)
          rw [z1 b1.1 b1.2]
          exact hK'
        · exact h_rec m' em B1 x8 _ _ y u K' hu.1 b2 (by omega) (by omega) (by omega) (by omega) (by omega) hK'
        · refine c_dz_to hsL (d + 1) (by omega) x7 t K' ht.1 hr7 (fun z z1 _ => ?_)
          rw [z1 b1.1 (by rw [(ht.2.1.same 8 rfl).1]; exact b1.2), (ht.2.1.same 10 rfl).2]
          exact hK'
        · have hp := wk_PT_t hu ht
          refine ⟨(rf_args B2).length, by omega, Or.inr ⟨rfl, u.2.1 10 x7.toNat, x8 + 1, B2, _, rfl, hp, wk_PT_ty ht b3, ⟨by omega, by omega⟩, by omega, ?_, rfl⟩⟩
          rw [← hl, erow]
          simp only [List.append_assoc]
theorem c_k_putV {sL : Nat} {sx : Nat → Int32} (hsL : sL ≤ 3072) : ∀ m : Nat, ∀ d, 8 + m ≤ d → ∀ (A : rf_T) (a0 a1 a2 a3 : Int) (s : sx_S) (K : Int → sx_S → Prop), cx_I s → wk_ty s A a1 → rf_at A ≤ m → (0 ≤ a3 ∧ a3 + (rf_at A : Int) ≤ 5) → (0 ≤ a0 ∧ a0 ≤ 99990000) → (0 ≤ a2 ∧ a2 + 5 * (rf_at A : Int) ≤ 99990000) → s.1 55 10 + ((wk_cv A a0 a2).length : Int) ≤ 999990000 → (∀ z t, wk_PT s t (wk_cv A a0 a2) → K z t) → sx_C sL sx d 132 [.inr (.inl 55), .inl a0, .inl a1, .inl a2, .inl a3] s K := by
  intro m
  induction m with
  | zero =>
    intro d hd
    obtain ⟨d, rfl⟩ : ∃ e, d = e + 2 := ⟨d - 2, by omega⟩
    exact st_k_putV hsL 0 (by omega) (fun m' h => absurd h (by omega))
  | succ m ih =>
    intro d hd
    obtain ⟨d, rfl⟩ : ∃ e, d = e + 2 := ⟨d - 2, by omega⟩
    exact st_k_putV hsL (m + 1) (by omega) (fun m' h => by
      obtain rfl : m = m' := by omega
      exact ih (d + 1) (by omega))
end
section
/-! ===== the desk puts a new unknown before its ARGs; what stands before an ARG ===== -/
/-- a row of variables in their long forms -/
def wk_rl : List rf_T → List Int → Int → List Int
  | A :: As, n :: ns, M => wk_cv A n M ++ wk_rl As ns M
  | _, _, _ => []
theorem w_k_pu {CALL : sx_Ca} {sL : Nat} {sx : Nat → Int32} {Q : Nat → sx_L → sx_S → Prop} {R : Int → sx_S → Prop} {s : sx_S} {a0 a1 a2 m nb : Int} {P1 : sx_S → Prop} {P2 : sx_S → sx_S → Prop} (p0 : 0 ≤ a0 ∧ a0 ≤ 2000) (pm : 0 ≤ m ∧ m < 32) (hH : ∀ K : Int → sx_S → Prop, K m s → CALL 92 [.inr (.inl 11), .inl a0] s K) (h1 : ∀ K : Int → sx_S → Prop, (∀ z t, P1 t → K z t) → CALL 135 [.inr (.inl 55), .inl 104] s K) (hI1 : ∀ t, P1 t → cx_I t ∧ t.2.1 63 m.toNat = nb) (rn : -2147483648 ≤ nb ∧ nb ≤ 2147483647) (h2 : ∀ t, P1 t → ∀ K : Int → sx_S → Prop, (∀ z t2, P2 t t2 → K z t2) → CALL 134 [.inr (.inl 55), .inl nb] t K) (hQ : ∀ t t2, P1 t → P2 t t2 → Q 46 [(0, .inr (.inl 55)), (1, .inl a0), (2, .inl a1), (3, .inl a2), (4, .inl m), (5, .inl 0)] t2) : sx_wp true sL sx eX10_putUnknown CALL [(46, [0, 1, 2, 3, 4, 5])] Q R 400 0 (sx_argsF 0 [.inr (.inl 55), .inl a0, .inl a1, .inl a2]) [] s := by
  repeat' (first | (with_reducible (rintro _ rfl)) | (with_reducible intro _) | (refine And.intro ?_ ?_) | (refine hH _ ?_) | (refine h1 _ (fun zz1 zt1 zp1 => ?_); obtain ⟨zi1, ze1⟩ := hI1 zt1 zp1; subst ze1) | (refine h2 zt1 zp1 _ (fun zz2 zt2 zp2 => ?_)) | (fail))
  all_goals (try dsimp only at *)
  all_goals (first | trivial | assumption | omega | (exfalso; omega) | (exact hQ _ _ zp1 zp2) | (subst_vars; first | assumption | omega | exact hQ _ _ zp1 zp2) | skip)
theorem w_k_pu46n {CALL : sx_Ca} {sL : Nat} {sx : Nat → Int32} {Q : Nat → sx_L → sx_S → Prop} {R : Int → sx_S → Prop} {s : sx_S} {a0 a1 a2 m x5 n : Int} (p5 : 0 ≤ x5 ∧ x5 ≤ 4) (pn : 0 ≤ n ∧ n ≤ 4) (hA : ∀ K : Int → sx_S → Prop, K n s → CALL 94 [.inr (.inl 11), .inl a0] s K) (p0 : 0 ≤ a0 ∧ a0 ≤ 2000) (hn : n ≤ x5) (hK : R 0 s) : sx_wp true sL sx eX10_putUnknown CALL [(46, [0, 1, 2, 3, 4, 5])] Q R 400 46 [(0, .inr (.inl 55)), (1, .inl a0), (2, .inl a1), (3, .inl a2), (4, .inl m), (5, .inl x5)] [] s := by
  repeat' (first | (with_reducible intro _) | (refine And.intro ?_ ?_) | (refine hA _ ?_) | (fail))
  all_goals (try dsimp only at *)
  all_goals (first | trivial | assumption | omega | (exfalso; omega) | skip)
theorem w_k_pu46y {CALL : sx_Ca} {sL : Nat} {sx : Nat → Int32} {Q : Nat → sx_L → sx_S → Prop} {R : Int → sx_S → Prop} {s : sx_S} {a0 a1 a2 m x5 n w g lv ty k : Int} {P1 : sx_S → Prop} (hI : cx_I s) (p5 : 0 ≤ x5 ∧ x5 < n) (pn : 0 ≤ n ∧ n ≤ 4) (hA : ∀ K : Int → sx_S → Prop, K n s → CALL 94 [.inr (.inl 11), .inl a0] s K) (p0 : 0 ≤ a0 ∧ a0 ≤ 2000) (p1 : -2147483648 ≤ a1 ∧ a1 ≤ 2147483647) (p2 : -2147483648 ≤ a2 ∧ a2 ≤ 2147483647) (pm : 0 ≤ m ∧ m < 32) (ek : s.2.1 64 (m * 4 + x5).toNat = k) (rk : -2147483648 ≤ k ∧ k ≤ 2147483647) (hG : ∀ K : Int → sx_S → Prop, K w s → CALL 95 [.inr (.inl 11), .inl a0, .inl k] s K) (rw' : -2147483648 ≤ w ∧ w ≤ 2147483647) (hH : ∀ K : Int → sx_S → Prop, K g s → CALL 92 [.inr (.inl 11), .inl w] s K) (rg : -2147483648 ≤ g ∧ g ≤ 2147483647) (hO : ∀ K : Int → sx_S → Prop, K lv s → CALL 47 [.inr (.inl 29), .inl a1, .inl g] s K) (rl : -2147483648 ≤ lv ∧ lv ≤ 2147483647) (hT : ∀ K : Int → sx_S → Prop, K ty s → CALL 87 [.inr (.inl 11), .inl g] s K) (rt : -2147483648 ≤ ty ∧ ty ≤ 2147483647) (hV : ∀ K : Int → sx_S → Prop, (∀ z t, P1 t → K z t) → CALL 132 [.inr (.inl 55), .inl lv, .inl ty, .inl a2, .inl 0] s K) (hQ : ∀ t, P1 t → Q 46 [(0, .inr (.inl 55)), (1, .inl a0), (2, .inl a1), (3, .inl a2), (4, .inl m), (5, .inl (x5 + 1))] t) : sx_wp true sL sx eX10_putUnknown CALL [(46, [0, 1, 2, 3, 4, 5])] Q R 400 46 [(0, .inr (.inl 55)), (1, .inl a0), (2, .inl a1), (3, .inl a2), (4, .inl m), (5, .inl x5)] [] s := by
  have zz4 : sx_w true (m * 4) = m * 4 := px_wid (by omega) (by omega)
  have zz5 : sx_w true (sx_w true (m * 4) + x5) = m * 4 + x5 := by rw [zz4]; exact px_wid (by omega) (by omega)
  have zz6 : sx_w true (x5 + 1) = x5 + 1 := px_wid (by omega) (by omega)
  rw [← zz6] at hQ
  rw [← zz5] at ek
  subst ek
  repeat' (first | (with_reducible (rintro _ rfl)) | (with_reducible intro _) | (refine And.intro ?_ ?_) | (refine hA _ ?_) | (refine hG _ ?_) | (refine hH _ ?_) | (refine hO _ ?_) | (refine hT _ ?_) | (refine hV _ (fun zz1 zt1 zp1 => ?_)) | (fail))
  all_goals (try dsimp only at *)
  all_goals (first | trivial | assumption | omega | (exfalso; omega) | (exact hQ _ zp1) | skip)
/-- what is put of a call of an open unknown -/
def wk_U (s : sx_S) (F : rf_N) (c : List (Int × Int)) (m : Int) (i : Nat) (Ts : List rf_T) (Ls : List Int) : Prop := True → s.2.1 63 m.toNat = (i : Int) ∧ (Ts.length = rf_len F ∧ Ls.length = rf_len F) ∧ ∀ p : Nat, p < rf_len F → ∃ (k : Nat) (A : rf_T) (l : Int), s.2.1 64 (m * 4 + (p : Int)).toNat = (k : Int) ∧ k < rf_len F ∧ Ts[p]? = some A ∧ Ls[p]? = some l ∧ l = dv_lk c ((dz_hs F).getD k (-1)) ∧ (0 ≤ l ∧ l ≤ 99990000) ∧ (0 ≤ (dz_hs F).getD k (-1) ∧ (dz_hs F).getD k (-1) < s.1 11 8) ∧ wk_ty s A (s.2.1 17 ((dz_hs F).getD k (-1)).toNat) ∧ rf_at A ≤ 5
theorem wk_U_c {s t : sx_S} {F : rf_N} {c : List (Int × Int)} {m : Int} {i : Nat} {Ts : List rf_T} {Ls : List Int} (hF : cx_F [(55, 55), (65, 65)] s t) (h : wk_U s F c m i Ts Ls) : wk_U t F c m i Ts Ls := fun _ => by
  obtain ⟨h1, h2, h3⟩ := h trivial
  refine ⟨by rw [(hF.same 63 rfl).2]; exact h1, h2, fun p hp => ?_⟩
  obtain ⟨k, A, l, a1, a2, a3, a4, a5, a6, a7, a8, a9⟩ := h3 p hp
  exact ⟨k, A, l, by rw [(hF.same 64 rfl).2]; exact a1, a2, a3, a4, a5, a6, by rw [(hF.same 11 rfl).1]; exact a7, wk_ty_c (by rw [(hF.same 8 rfl).1]) (hF.same 9 rfl).2 (hF.same 10 rfl).2 (by rw [(hF.same 17 rfl).2]; exact a8), a9⟩
theorem wk_rl_len : ∀ (Ts : List rf_T) (Ls : List Int) (M : Int), (∀ A ∈ Ts, rf_at A ≤ 5) → (wk_rl Ts Ls M).length ≤ 140 * Ts.length
  | [], _, _, _ => by
    unfold wk_rl
    exact Nat.le_refl _
  | A :: As, [], M, _ => by
    show 0 ≤ _
    omega
  | A :: As, n :: ns, M, h => by
    have h1 := (wk_len A n M).1
    have h2 := wk_rl_len As ns M (fun B hB => h B (List.mem_cons_of_mem _ hB))
    have h3 := h A List.mem_cons_self
    show (wk_cv A n M ++ wk_rl As ns M).length ≤ _
    rw [List.length_append, List.length_cons]
    omega
theorem wk_rl_app : ∀ (p : Nat) (Ts : List rf_T) (Ls : List Int) (M : Int) (A : rf_T) (l : Int), Ts[p]? = some A → Ls[p]? = some l → wk_rl (Ts.take (p + 1)) (Ls.take (p + 1)) M = wk_rl (Ts.take p) (Ls.take p) M ++ wk_cv A l M
  | 0, T :: Ts, n :: ns, M, A, l, h1, h2 => by
    have e1 : T = A := by simpa using h1
    have e2 : n = l := by simpa using h2
    rw [e1, e2]
    show wk_cv A l M ++ [] = [] ++ wk_cv A l M
    rw [List.append_nil, List.nil_append]
  | p + 1, T :: Ts, n :: ns, M, A, l, h1, h2 => by
    have e := wk_rl_app p Ts ns M A l (by simpa using h1) (by simpa using h2)
    show wk_cv T n M ++ wk_rl (Ts.take (p + 1)) (ns.take (p + 1)) M = (wk_cv T n M ++ wk_rl (Ts.take p) (ns.take p) M) ++ wk_cv A l M
    rw [e, List.append_assoc]
  | _, [], _, _, _, _, h, _ => by simp at h
  | _, _ :: _, [], _, _, _, _, h => by simp at h
theorem c_k_putU {sL : Nat} {sx : Nat → Int32} (hsL : sL ≤ 3072) (d : Nat) (hd : 16 ≤ d) : ∀ (a0 a1 a2 hi m : Int) (F : rf_N) (c : List (Int × Int)) (i : Nat) (Ts : List rf_T) (Ls : List Int) (s : sx_S) (K : Int → sx_S → Prop), cx_I s → (0 ≤ a0 ∧ a0 < s.1 11 6) → (s.2.1 13 a0.toNat = m ∧ 0 ≤ m ∧ m < 32) → dz_nd s F (s.2.1 14 a0.toNat) → s.2.1 16 a0.toNat = (rf_len F : Int) → rf_len F ≤ 4 → dv_c s c hi a1 → hi ≤ s.1 29 3 → (0 ≤ a2 ∧ a2 ≤ 99980000) → i ≤ 1000 → wk_U s F c m i Ts Ls → s.1 55 10 ≤ 900000000 → (∀ z t, wk_PT s t (104 :: (wb_dg (i : Int) ++ wk_rl Ts Ls a2)) → K z t) → sx_C sL sx d 131 [.inr (.inl 55), .inl a0, .inl a1, .inl a2] s K := by
  intro a0 a1 a2 hi m F c i Ts Ls s K hI p0 hm hF hA h4 hc hhi p2 hi0 hU h10 hK
  obtain ⟨em, m0, m1⟩ := hm
  have f6 := hI.fld 11 6 (by decide) rfl
  have f8 := hI.fld 11 8 (by decide) rfl
  have r1 := dv_ch_rng hc
  have r29 := hI.fld 29 3 (by decide) rfl
  obtain ⟨u1, ⟨u2, u3⟩, u4⟩ := hU trivial
  have dl := wb_dg_len (i : Int)
  have h5 : ∀ A ∈ Ts, rf_at A ≤ 5 := fun A hA' => by
    obtain ⟨p, hp, e⟩ := List.getElem_of_mem hA'
    obtain ⟨k, A', l, _, _, a3, _, _, _, _, _, a9⟩ := u4 p (by omega)
    rw [List.getElem?_eq_getElem hp, e] at a3
    rw [Option.some.inj a3]
    exact a9
  have hrl := wk_rl_len Ts Ls a2 h5
  obtain ⟨d, rfl⟩ : ∃ e, d = e + 2 := ⟨d - 2, by omega⟩
  refine sx_methL (wr := true) (n := 400) (n' := 400) (stop := [(46, [0, 1, 2, 3, 4, 5])]) (fun n pc ls u => pc = 46 ∧ ∃ x5 : Nat, ls = [(0, .inr (.inl 55)), (1, .inl a0), (2, .inl a1), (3, .inl a2), (4, .inl m), (5, .inl (x5 : Int))] ∧ x5 ≤ rf_len F ∧ wk_PT s u (104 :: (wb_dg (i : Int) ++ wk_rl (Ts.take x5) (Ls.take x5) a2)) ∧ n = rf_len F - x5) hsL (e := eX10_putUnknown) rfl ?_ ?_
  · refine w_k_pu (nb := (i : Int)) (P1 := fun t => wk_PT s t [104]) (P2 := fun t t2 => wk_PT t t2 (wb_dg (i : Int))) (by omega) ⟨m0, m1⟩ (fun K' hK' => ?_) (fun K' hK' => c_k_put hsL (d + 1) (by omega) 104 s K' hI (by omega) (by omega) hK') (fun t ht => ⟨ht.1, by rw [(ht.2.1.same 63 rfl).2]; exact u1⟩) (by omega) (fun t ht K' hK' => ?_) (fun t t2 ht ht2 => ⟨_, rfl, 0, rfl, by omega, ?_, rfl⟩)
    · refine c_dz_head hsL (d + 1) (by omega) a0 s K' hI (by omega) (fun z z1 _ => ?_)
      rw [z1 p0.1 p0.2, em]
      exact hK'
    · have e1 : t.1 55 10 = s.1 55 10 + 1 := ht.2.2.2.1
      exact c_k_putN hsL (d + 1) (by omega) _ t K' ht.1 (by omega) (by omega) hK'
    · have e0 : wk_rl (Ts.take 0) (Ls.take 0) a2 = [] := by
        rw [List.take_zero]
        unfold wk_rl
        rfl
      rw [e0, List.append_nil]
      exact wk_PT_t ht ht2
  · rintro n pc ls u ⟨rfl, x5, rfl, h5', hu, rfl⟩
    have F' := hu.2.1
    have g11 : u.1 11 = s.1 11 := (F'.same 11 rfl).1
    have hAu : ∀ K' : Int → sx_S → Prop, K' (rf_len F : Int) u → sx_C sL sx (d + 1) 94 [.inr (.inl 11), .inl a0] u K' := fun K' hK' => by
      refine c_dz_arity hsL (d + 1) (by omega) a0 u K' hu.1 (by omega) (fun z z1 _ => ?_)
      rw [z1 p0.1 (by rw [g11]; exact p0.2), (F'.same 16 rfl).2, hA]
      exact hK'
    by_cases hx : x5 < rf_len F
    · obtain ⟨k, A, l, a1', a2', a3', a4', a5', a6', a7', a8', a9'⟩ := (wk_U_c F' hU) trivial |>.2.2 x5 hx
      have nf : dv_nf (s.1 11 6) (fun _ => []) (fun _ => []) s u := dv_nf_F _ F' (by decide)
      have hFu : dz_nd u F (u.2.1 14 a0.toNat) := by
        rw [(F'.same 14 rfl).2]
        exact dz_nd_fr hF (nf trivial).1 (fun j hj => rf_nd_lt hF j hj)
      have hcu : dv_c u c hi a1 := dv_ch_fr (fun j _ => by rw [(F'.same 30 rfl).2, (F'.same 31 rfl).2, (F'.same 32 rfl).2]; exact ⟨rfl, rfl, rfl⟩) hc
      have g6 := hu.1.fld 11 6 (by decide) rfl
      have g8 := hu.1.fld 11 8 (by decide) rfl
      obtain ⟨w, hw⟩ := dv_drx k hFu
      obtain ⟨w1, w2⟩ := dv_nth a2' hw
      have hll := (wk_len A l a2).1
      have hul : (wk_rl (Ts.take x5) (Ls.take x5) a2).length ≤ 140 * (Ts.take x5).length := wk_rl_len _ _ _ (fun B hB => h5 B (List.mem_of_mem_take hB))
      rw [List.length_take] at hul
      have hu10 := hu.2.2.2.1
      rw [List.length_cons, List.length_append] at hu10
      refine w_k_pu46y (n := (rf_len F : Int)) (w := w) (g := (dz_hs F).getD k (-1)) (lv := l) (ty := u.2.1 17 ((dz_hs F).getD k (-1)).toNat) (k := (k : Int)) (P1 := fun t => wk_PT u t (wk_cv A l a2)) hu.1 (by omega) (by omega) hAu (by omega) (by omega) (by omega) ⟨m0, m1⟩ a1' (by omega) (fun K' hK' => ?_) (by omega) (fun K' hK' => ?_) (by omega) (fun K' hK' => ?_) (by omega) (fun K' hK' => ?_) (wk_ty_r hu.1 a8') (fun K' hK' => c_k_putV hsL 5 (d + 1) (by omega) A l _ a2 0 u K' hu.1 a8' a9' (by omega) a6' (by omega) (by omega) hK') (fun t ht => ?_)
      · refine c_dz_arg hsL (d + 1) (by omega) a0 k F u K' hu.1 (by rw [g11]; exact p0) (by omega) hFu (fun z _ q => ?_)
        rw [Int.toNat_natCast] at q
        rw [dv_nd1 q hw]
        exact hK'
      · refine c_dz_head hsL (d + 1) (by omega) w u K' hu.1 (by omega) (fun z z1 _ => ?_)
        rw [z1 w1.1 w1.2, w2]
        exact hK'
      · rw [a5'] at hK'
        exact c_dv_of hsL (d + 1) (by omega) _ _ _ c u K' hu.1 (by omega) hcu (by rw [(F'.same 29 rfl).1]; exact hhi) hK'
      · refine c_dz_vt hsL (d + 1) (by omega) _ u K' hu.1 (by omega) (fun z z1 => ?_)
        rw [z1 a7'.1 a7'.2]
        exact hK'
      · refine ⟨rf_len F - (x5 + 1), by omega, rfl, x5 + 1, by rw [show ((x5 + 1 : Nat) : Int) = (x5 : Int) + 1 by omega], by omega, ?_, rfl⟩
        rw [wk_rl_app x5 Ts Ls a2 A l a3' a4', ← List.append_assoc, ← List.cons_append]
        exact wk_PT_t hu ht
    · have hx' : x5 = rf_len F := by omega
      refine w_k_pu46n (n := (rf_len F : Int)) (by omega) (by omega) hAu (by omega) (by omega) (hK 0 u ?_)
      rw [List.take_of_length_le (by omega), List.take_of_length_le (by omega)] at hu
      exact hu
end
section
/-! ===== the desk: what stands before an ARG; a head: a variable's number, a constant's name ===== -/
theorem w_k_nl {CALL : sx_Ca} {sL : Nat} {sx : Nat → Int32} {Q : Nat → sx_L → sx_S → Prop} {R : Int → sx_S → Prop} {s : sx_S} {t0 : Int} (hI : cx_I s) (p0 : 0 ≤ t0 ∧ t0 < s.1 2 5) (r1 : 0 ≤ s.2.1 5 t0.toNat ∧ s.2.1 5 t0.toNat ≤ 240) (r2 : 0 ≤ s.2.1 6 t0.toNat ∧ s.2.1 6 t0.toNat ≤ 240) (hK : R (s.2.1 6 t0.toNat - s.2.1 5 t0.toNat) s) : sx_wp true sL sx eX8_nameLength CALL [] Q R 400 0 (sx_argsF 0 [.inr (.inl 2), .inl t0]) [] s := by
  have f := hI.fld 2 5 (by decide) rfl
  have zz1 : sx_w true (s.2.1 6 t0.toNat - s.2.1 5 t0.toNat) = s.2.1 6 t0.toNat - s.2.1 5 t0.toNat := px_wid (by omega) (by omega)
  rw [← zz1] at hK
  repeat' (first | (with_reducible (rintro _ rfl)) | (with_reducible intro _) | (refine And.intro ?_ ?_) | (fail))
  all_goals (try dsimp only at *)
  all_goals (first | trivial | assumption | omega | (exfalso; omega) | skip)
theorem c_k_nl {sL : Nat} {sx : Nat → Int32} (hsL : sL ≤ 3072) (d : Nat) (hd : 2 ≤ d) : ∀ (t0 : Int) (s : sx_S) (K : Int → sx_S → Prop), cx_I s → (0 ≤ t0 ∧ t0 < s.1 2 5) → (0 ≤ s.2.1 5 t0.toNat ∧ s.2.1 5 t0.toNat ≤ 240) → (0 ≤ s.2.1 6 t0.toNat ∧ s.2.1 6 t0.toNat ≤ 240) → K (s.2.1 6 t0.toNat - s.2.1 5 t0.toNat) s → sx_C sL sx d 103 [.inr (.inl 2), .inl t0] s K := by
  intro t0 s K hI p0 r1 r2 hK
  obtain ⟨d, rfl⟩ : ∃ e, d = e + 2 := ⟨d - 2, by omega⟩
  exact sx_meth (wr := true) (n := 400) hsL (e := eX8_nameLength) rfl (w_k_nl (Q := fun _ _ _ => False) hI p0 r1 r2 hK)
theorem w_k_nb {CALL : sx_Ca} {sL : Nat} {sx : Nat → Int32} {Q : Nat → sx_L → sx_S → Prop} {R : Int → sx_S → Prop} {s : sx_S} {t0 t1 : Int} (hI : cx_I s) (p0 : 0 ≤ t0 ∧ t0 < s.1 2 5) (p1 : 0 ≤ t1 ∧ t1 ≤ 240) (r1 : 0 ≤ s.2.1 5 t0.toNat ∧ s.2.1 5 t0.toNat + t1 < s.1 2 4) (hK : R (s.2.1 3 (s.2.1 5 t0.toNat + t1).toNat) s) : sx_wp true sL sx eX8_nameByte CALL [] Q R 400 0 (sx_argsF 0 [.inr (.inl 2), .inl t0, .inl t1]) [] s := by
  have f := hI.fld 2 5 (by decide) rfl
  have f4 := hI.fld 2 4 (by decide) rfl
  have zz1 : sx_w true (s.2.1 5 t0.toNat + t1) = s.2.1 5 t0.toNat + t1 := px_wid (by omega) (by omega)
  rw [← zz1] at hK
  repeat' (first | (with_reducible (rintro _ rfl)) | (with_reducible intro _) | (refine And.intro ?_ ?_) | (fail))
  all_goals (try dsimp only at *)
  all_goals (first | trivial | assumption | omega | (exfalso; omega) | skip)
theorem c_k_nb {sL : Nat} {sx : Nat → Int32} (hsL : sL ≤ 3072) (d : Nat) (hd : 2 ≤ d) : ∀ (t0 t1 : Int) (s : sx_S) (K : Int → sx_S → Prop), cx_I s → (0 ≤ t0 ∧ t0 < s.1 2 5) → (0 ≤ t1 ∧ t1 ≤ 240) → (0 ≤ s.2.1 5 t0.toNat ∧ s.2.1 5 t0.toNat + t1 < s.1 2 4) → K (s.2.1 3 (s.2.1 5 t0.toNat + t1).toNat) s → sx_C sL sx d 104 [.inr (.inl 2), .inl t0, .inl t1] s K := by
  intro t0 t1 s K hI p0 p1 r1 hK
  obtain ⟨d, rfl⟩ : ∃ e, d = e + 2 := ⟨d - 2, by omega⟩
  exact sx_meth (wr := true) (n := 400) hsL (e := eX8_nameByte) rfl (w_k_nb (Q := fun _ _ _ => False) hI p0 p1 r1 hK)
theorem w_k_nn {CALL : sx_Ca} {sL : Nat} {sx : Nat → Int32} {Q : Nat → sx_L → sx_S → Prop} {R : Int → sx_S → Prop} {s : sx_S} {a0 : Int} (hI : cx_I s) (p0 : 0 ≤ a0 ∧ a0 < s.1 19 2) (hK : R (s.2.1 20 a0.toNat) s) : sx_wp true sL sx eX4_name CALL [] Q R 400 0 (sx_argsF 0 [.inr (.inl 19), .inl a0]) [] s := by
  have f := hI.fld 19 2 (by decide) rfl
  repeat' (first | (with_reducible (rintro _ rfl)) | (with_reducible intro _) | (refine And.intro ?_ ?_) | (fail))
  all_goals (try dsimp only at *)
  all_goals (first | trivial | assumption | omega | (exfalso; omega) | skip)
theorem c_k_nn {sL : Nat} {sx : Nat → Int32} (hsL : sL ≤ 3072) (d : Nat) (hd : 2 ≤ d) : ∀ (a0 : Int) (s : sx_S) (K : Int → sx_S → Prop), cx_I s → (0 ≤ a0 ∧ a0 < s.1 19 2) → K (s.2.1 20 a0.toNat) s → sx_C sL sx d 55 [.inr (.inl 19), .inl a0] s K := by
  intro a0 s K hI p0 hK
  obtain ⟨d, rfl⟩ : ∃ e, d = e + 2 := ⟨d - 2, by omega⟩
  exact sx_meth (wr := true) (n := 400) hsL (e := eX4_name) rfl (w_k_nn (Q := fun _ _ _ => False) hI p0 hK)
/-- the name of the constant h lies in the text -/
def wk_Nm (s : sx_S) (h : Int) : Prop := True → (0 ≤ h ∧ h < s.1 19 2) ∧ (0 ≤ s.2.1 20 h.toNat ∧ s.2.1 20 h.toNat < s.1 2 5) ∧ 0 ≤ s.2.1 5 (s.2.1 20 h.toNat).toNat ∧ (0 ≤ s.2.1 6 (s.2.1 20 h.toNat).toNat - s.2.1 5 (s.2.1 20 h.toNat).toNat ∧ s.2.1 6 (s.2.1 20 h.toNat).toNat - s.2.1 5 (s.2.1 20 h.toNat).toNat ≤ 8) ∧ s.2.1 6 (s.2.1 20 h.toNat).toNat ≤ s.1 2 4 ∧ s.1 2 4 ≤ 240
/-- its bytes -/
def wk_nm (s : sx_S) (h : Int) : List Int := (List.range (s.2.1 6 (s.2.1 20 h.toNat).toNat - s.2.1 5 (s.2.1 20 h.toNat).toNat).toNat).map (fun j : Nat => s.2.1 3 (s.2.1 5 (s.2.1 20 h.toNat).toNat + (j : Int)).toNat)
theorem wk_Nm_c {s t : sx_S} {h : Int} (hF : cx_F [(55, 55), (65, 65)] s t) (hN : wk_Nm s h) : wk_Nm t h := fun _ => by
  rw [(hF.same 2 rfl).1, (hF.same 19 rfl).1, (hF.same 20 rfl).2, (hF.same 5 rfl).2, (hF.same 6 rfl).2]
  exact hN trivial
theorem wk_nm_c {s t : sx_S} {h : Int} (hF : cx_F [(55, 55), (65, 65)] s t) : wk_nm t h = wk_nm s h := by
  unfold wk_nm
  rw [(hF.same 20 rfl).2, (hF.same 5 rfl).2, (hF.same 6 rfl).2, (hF.same 3 rfl).2]
theorem w_k_cl {CALL : sx_Ca} {sL : Nat} {sx : Nat → Int32} {Q : Nat → sx_L → sx_S → Prop} {R : Int → sx_S → Prop} {s : sx_S} {a0 tk n : Int} (rk : -2147483648 ≤ tk ∧ tk ≤ 2147483647) (rn : -2147483648 ≤ n ∧ n ≤ 2147483647) (h1 : ∀ K : Int → sx_S → Prop, K tk s → CALL 55 [.inr (.inl 19), .inl a0] s K) (h2 : ∀ K : Int → sx_S → Prop, K n s → CALL 103 [.inr (.inl 2), .inl tk] s K) (hK : R n s) : sx_wp true sL sx eX1_constantLength CALL [] Q R 400 0 (sx_argsF 0 [.inr (.inl 18), .inl a0]) [] s := by
  repeat' (first | (with_reducible intro _) | (refine And.intro ?_ ?_) | (refine h1 _ ?_) | (refine h2 _ ?_) | (fail))
  all_goals (try dsimp only at *)
  all_goals (first | trivial | assumption | omega | (exfalso; omega) | skip)
theorem c_k_cl {sL : Nat} {sx : Nat → Int32} (hsL : sL ≤ 3072) (d : Nat) (hd : 3 ≤ d) : ∀ (a0 : Int) (s : sx_S) (K : Int → sx_S → Prop), cx_I s → wk_Nm s a0 → K ((wk_nm s a0).length : Int) s → sx_C sL sx d 19 [.inr (.inl 18), .inl a0] s K := by
  intro a0 s K hI hN hK
  obtain ⟨n1, n2, n3, n4, n5, n6⟩ := hN trivial
  have f5 := hI.fld 2 5 (by decide) rfl
  have e : ((wk_nm s a0).length : Int) = s.2.1 6 (s.2.1 20 a0.toNat).toNat - s.2.1 5 (s.2.1 20 a0.toNat).toNat := by
    unfold wk_nm
    rw [List.length_map, List.length_range]
    omega
  rw [e] at hK
  obtain ⟨d, rfl⟩ : ∃ e, d = e + 2 := ⟨d - 2, by omega⟩
  exact sx_meth (wr := true) (n := 400) hsL (e := eX1_constantLength) rfl (w_k_cl (Q := fun _ _ _ => False) (by omega) (by omega) (fun K' hK' => c_k_nn hsL (d + 1) (by omega) a0 s K' hI n1 hK') (fun K' hK' => c_k_nl hsL (d + 1) (by omega) _ s K' hI n2 (by omega) (by omega) hK') hK)
theorem w_k_cb {CALL : sx_Ca} {sL : Nat} {sx : Nat → Int32} {Q : Nat → sx_L → sx_S → Prop} {R : Int → sx_S → Prop} {s : sx_S} {a0 a1 tk n : Int} (p1 : 0 ≤ a1 ∧ a1 ≤ 240) (rk : -2147483648 ≤ tk ∧ tk ≤ 2147483647) (rn : -2147483648 ≤ n ∧ n ≤ 2147483647) (h1 : ∀ K : Int → sx_S → Prop, K tk s → CALL 55 [.inr (.inl 19), .inl a0] s K) (h2 : ∀ K : Int → sx_S → Prop, K n s → CALL 104 [.inr (.inl 2), .inl tk, .inl a1] s K) (hK : R n s) : sx_wp true sL sx eX1_constantByte CALL [] Q R 400 0 (sx_argsF 0 [.inr (.inl 18), .inl a0, .inl a1]) [] s := by
  repeat' (first | (with_reducible intro _) | (refine And.intro ?_ ?_) | (refine h1 _ ?_) | (refine h2 _ ?_) | (fail))
  all_goals (try dsimp only at *)
  all_goals (first | trivial | assumption | omega | (exfalso; omega) | skip)
theorem c_k_cb {sL : Nat} {sx : Nat → Int32} (hsL : sL ≤ 3072) (d : Nat) (hd : 3 ≤ d) : ∀ (a0 : Int) (i : Nat) (s : sx_S) (K : Int → sx_S → Prop), cx_I s → wk_Nm s a0 → i < (wk_nm s a0).length → (∀ b, (wk_nm s a0)[i]? = some b → K b s) → sx_C sL sx d 20 [.inr (.inl 18), .inl a0, .inl (i : Int)] s K := by
  intro a0 i s K hI hN hi hK
  obtain ⟨n1, n2, n3, n4, n5, n6⟩ := hN trivial
  have f5 := hI.fld 2 5 (by decide) rfl
  have hi' := hi
  unfold wk_nm at hi'
  rw [List.length_map, List.length_range] at hi'
  have r3 := hI.arr 3 (by decide) rfl (s.2.1 5 (s.2.1 20 a0.toNat).toNat + (i : Int)).toNat
  have hK0 := hK (s.2.1 3 (s.2.1 5 (s.2.1 20 a0.toNat).toNat + (i : Int)).toNat) (by
    unfold wk_nm
    rw [List.getElem?_map, List.getElem?_range hi']
    rfl)
  obtain ⟨d, rfl⟩ : ∃ e, d = e + 2 := ⟨d - 2, by omega⟩
  exact sx_meth (wr := true) (n := 400) hsL (e := eX1_constantByte) rfl (w_k_cb (Q := fun _ _ _ => False) (by omega) (by omega) (by omega) (fun K' hK' => c_k_nn hsL (d + 1) (by omega) a0 s K' hI n1 hK') (fun K' hK' => c_k_nb hsL (d + 1) (by omega) _ _ s K' hI n2 (by omega) (by omega) hK') hK0)
theorem w_k_hv {CALL : sx_Ca} {sL : Nat} {sx : Nat → Int32} {Q : Nat → sx_L → sx_S → Prop} {R : Int → sx_S → Prop} {s : sx_S} {a0 a1 h lv : Int} {P1 : sx_S → Prop} {P2 : sx_S → sx_S → Prop} (rh : -2147483648 ≤ h ∧ h ≤ 2147483647) (rl : -2147483648 ≤ lv ∧ lv ≤ 2147483647) (hH : ∀ K : Int → sx_S → Prop, K h s → CALL 92 [.inr (.inl 11), .inl a0] s K) (hD : ∀ K : Int → sx_S → Prop, K 2 s → CALL 91 [.inr (.inl 11), .inl a0] s K) (h1 : ∀ K : Int → sx_S → Prop, (∀ z t, P1 t → K z t) → CALL 135 [.inr (.inl 55), .inl 120] s K) (hO : ∀ t, P1 t → ∀ K : Int → sx_S → Prop, K lv t → CALL 47 [.inr (.inl 29), .inl a1, .inl h] t K) (h2 : ∀ t, P1 t → ∀ K : Int → sx_S → Prop, (∀ z t2, P2 t t2 → K z t2) → CALL 134 [.inr (.inl 55), .inl lv] t K) (hK : ∀ t t2, P1 t → P2 t t2 → R 0 t2) : sx_wp true sL sx eX10_putHead CALL [(44, [0, 3, 4])] Q R 400 0 (sx_argsF 0 [.inr (.inl 55), .inl a0, .inl a1]) [] s := by
  repeat' (first | (with_reducible (rintro _ rfl)) | (with_reducible intro _) | (refine And.intro ?_ ?_) | (refine hH _ ?_) | (refine hD _ ?_) | (refine h1 _ (fun zz1 zt1 zp1 => ?_)) | (refine hO zt1 zp1 _ ?_) | (refine h2 zt1 zp1 _ (fun zz2 zt2 zp2 => ?_)) | (fail))
  all_goals (try dsimp only at *)
  all_goals (first | trivial | assumption | omega | (exfalso; omega) | (exact hK _ _ zp1 zp2) | skip)
theorem w_k_hc {CALL : sx_Ca} {sL : Nat} {sx : Nat → Int32} {Q : Nat → sx_L → sx_S → Prop} {R : Int → sx_S → Prop} {s : sx_S} {a0 a1 h kd : Int} (rh : -2147483648 ≤ h ∧ h ≤ 2147483647) (rd : 0 ≤ kd ∧ kd ≤ 9) (hk : kd ≠ 2) (hH : ∀ K : Int → sx_S → Prop, K h s → CALL 92 [.inr (.inl 11), .inl a0] s K) (hD : ∀ K : Int → sx_S → Prop, K kd s → CALL 91 [.inr (.inl 11), .inl a0] s K) (hQ : Q 44 [(0, .inr (.inl 55)), (3, .inl h), (4, .inl 0)] s) : sx_wp true sL sx eX10_putHead CALL [(44, [0, 3, 4])] Q R 400 0 (sx_argsF 0 [.inr (.inl 55), .inl a0, .inl a1]) [] s := by
  repeat' (first | (with_reducible intro _) | (refine And.intro ?_ ?_) | (refine hH _ ?_) | (refine hD _ ?_) | (fail))
  all_goals (try dsimp only at *)
  all_goals (first | trivial | assumption | omega | (exfalso; omega) | skip)
theorem w_k_hc44n {CALL : sx_Ca} {sL : Nat} {sx : Nat → Int32} {Q : Nat → sx_L → sx_S → Prop} {R : Int → sx_S → Prop} {s : sx_S} {h x4 n : Int} (rh : -2147483648 ≤ h ∧ h ≤ 2147483647) (p4 : 0 ≤ x4 ∧ x4 ≤ 8) (pn : 0 ≤ n ∧ n ≤ x4) (hL : ∀ K : Int → sx_S → Prop, K n s → CALL 19 [.inr (.inl 18), .inl h] s K) (hK : R 0 s) : sx_wp true sL sx eX10_putHead CALL [(44, [0, 3, 4])] Q R 400 44 [(0, .inr (.inl 55)), (3, .inl h), (4, .inl x4)] [] s := by
  repeat' (first | (with_reducible intro _) | (refine And.intro ?_ ?_) | (refine hL _ ?_) | (fail))
  all_goals (try dsimp only at *)
  all_goals (first | trivial | assumption | omega | (exfalso; omega) | skip)
theorem w_k_hc44y {CALL : sx_Ca} {sL : Nat} {sx : Nat → Int32} {Q : Nat → sx_L → sx_S → Prop} {R : Int → sx_S → Prop} {s : sx_S} {h x4 n b : Int} {P1 : sx_S → Prop} (rh : -2147483648 ≤ h ∧ h ≤ 2147483647) (rb : -2147483648 ≤ b ∧ b ≤ 2147483647) (p4 : 0 ≤ x4 ∧ x4 < n) (pn : 0 ≤ n ∧ n ≤ 8) (hL : ∀ K : Int → sx_S → Prop, K n s → CALL 19 [.inr (.inl 18), .inl h] s K) (hB : ∀ K : Int → sx_S → Prop, K b s → CALL 20 [.inr (.inl 18), .inl h, .inl x4] s K) (h1 : ∀ K : Int → sx_S → Prop, (∀ z t, P1 t → K z t) → CALL 135 [.inr (.inl 55), .inl b] s K) (hQ : ∀ t, P1 t → Q 44 [(0, .inr (.inl 55)), (3, .inl h), (4, .inl (x4 + 1))] t) : sx_wp true sL sx eX10_putHead CALL [(44, [0, 3, 4])] Q R 400 44 [(0, .inr (.inl 55)), (3, .inl h), (4, .inl x4)] [] s := by
  have zz6 : sx_w true (x4 + 1) = x4 + 1 := px_wid (by omega) (by omega)
  rw [← zz6] at hQ
  repeat' (first | (with_reducible intro _) | (refine And.intro ?_ ?_) | (refine hL _ ?_) | (refine hB _ ?_) | (refine h1 _ (fun zz1 zt1 zp1 => ?_)) | (fail))
  all_goals (try dsimp only at *)
  all_goals (first | trivial | assumption | omega | (exfalso; omega) | (exact hQ _ zp1) | skip)
theorem c_k_hv {sL : Nat} {sx : Nat → Int32} (hsL : sL ≤ 3072) (d : Nat) (hd : 5 ≤ d) : ∀ (a0 a1 hi h : Int) (c : List (Int × Int)) (s : sx_S) (K : Int → sx_S → Prop), cx_I s → (0 ≤ a0 ∧ a0 < s.1 11 6) → s.2.1 12 a0.toNat = 2 → s.2.1 13 a0.toNat = h → dv_c s c hi a1 → hi ≤ s.1 29 3 → (0 ≤ dv_lk c h ∧ dv_lk c h ≤ 99990000) → s.1 55 10 ≤ 900000000 → (∀ z t, wk_PT s t (120 :: wb_dg (dv_lk c h)) → K z t) → sx_C sL sx d 130 [.inr (.inl 55), .inl a0, .inl a1] s K := by
  intro a0 a1 hi h c s K hI p0 hk hh hc hhi hl h10 hK
  have f6 := hI.fld 11 6 (by decide) rfl
  have rh := hI.arr 13 (by decide) rfl a0.toNat
  rw [hh] at rh
  obtain ⟨d, rfl⟩ : ∃ e, d = e + 2 := ⟨d - 2, by omega⟩
  refine sx_methL (wr := true) (n := 400) (n' := 400) (stop := [(44, [0, 3, 4])]) (fun n pc ls u => False) hsL (e := eX10_putHead) rfl ?_ ?_
  · refine w_k_hv (h := h) (lv := dv_lk c h) (P1 := fun t => wk_PT s t [120]) (P2 := fun t t2 => wk_PT t t2 (wb_dg (dv_lk c h))) (by omega) (by omega) (fun K' hK' => ?_) (fun K' hK' => ?_) (fun K' hK' => c_k_put hsL (d + 1) (by omega) 120 s K' hI (by omega) (by omega) hK') (fun t ht K' hK' => ?_) (fun t ht K' hK' => ?_) (fun t t2 ht ht2 => hK 0 t2 (wk_PT_t ht ht2))
    · refine c_dz_head hsL (d + 1) (by omega) a0 s K' hI (by omega) (fun z z1 _ => ?_)
      rw [z1 p0.1 p0.2, hh]
      exact hK'
    · refine c_dz_kind hsL (d + 1) (by omega) a0 s K' hI (by omega) (fun z z1 _ => ?_)
      rw [z1 p0.1 p0.2, hk]
      exact hK'
    · have F' := ht.2.1
      exact c_dv_of hsL (d + 1) (by omega) _ _ _ c t K' ht.1 (by omega) (dv_ch_fr (fun j _ => by rw [(F'.same 30 rfl).2, (F'.same 31 rfl).2, (F'.same 32 rfl).2]; exact ⟨rfl, rfl, rfl⟩) hc) (by rw [(F'.same 29 rfl).1]; exact hhi) hK'
    · have e1 : t.1 55 10 = s.1 55 10 + 1 := ht.2.2.2.1
      exact c_k_putN hsL (d + 1) (by omega) _ t K' ht.1 (by omega) (by omega) hK'
  · rintro n pc ls u hf
    exact hf.elim
theorem c_k_hc {sL : Nat} {sx : Nat → Int32} (hsL : sL ≤ 3072) (d : Nat) (hd : 5 ≤ d) : ∀ (a0 a1 h : Int) (s : sx_S) (K : Int → sx_S → Prop), cx_I s → (0 ≤ a0 ∧ a0 < s.1 11 6) → (-2147483648 ≤ a1 ∧ a1 ≤ 2147483647) → (0 ≤ s.2.1 12 a0.toNat ∧ s.2.1 12 a0.toNat ≤ 9) → s.2.1 12 a0.toNat ≠ 2 → s.2.1 13 a0.toNat = h → wk_Nm s h → s.1 55 10 ≤ 900000000 → (∀ z t, wk_PT s t (wk_nm s h) → K z t) → sx_C sL sx d 130 [.inr (.inl 55), .inl a0, .inl a1] s K := by
  intro a0 a1 h s K hI p0 p1 rd hk hh hN h10 hK
  have f6 := hI.fld 11 6 (by decide) rfl
  have rh := hI.arr 13 (by decide) rfl a0.toNat
  rw [hh] at rh
  have nl : (wk_nm s h).length ≤ 8 := by
    obtain ⟨n1, n2, n3, n4, n5, n6⟩ := hN trivial
    unfold wk_nm
    rw [List.length_map, List.length_range]
    omega
  obtain ⟨d, rfl⟩ : ∃ e, d = e + 2 := ⟨d - 2, by omega⟩
  refine sx_methL (wr := true) (n := 400) (n' := 400) (stop := [(44, [0, 3, 4])]) (fun n pc ls u => pc = 44 ∧ ∃ x4 : Nat, ls = [(0, .inr (.inl 55)), (3, .inl h), (4, .inl (x4 : Int))] ∧ x4 ≤ (wk_nm s h).length ∧ wk_PT s u ((wk_nm s h).take x4) ∧ n = (wk_nm s h).length - x4) hsL (e := eX10_putHead) rfl ?_ ?_
  · refine w_k_hc (h := h) (kd := s.2.1 12 a0.toNat) (by omega) rd hk (fun K' hK' => ?_) (fun K' hK' => ?_) ⟨_, rfl, 0, rfl, by omega, ?_, rfl⟩
    · refine c_dz_head hsL (d + 1) (by omega) a0 s K' hI (by omega) (fun z z1 _ => ?_)
      rw [z1 p0.1 p0.2, hh]
      exact hK'
    · refine c_dz_kind hsL (d + 1) (by omega) a0 s K' hI (by omega) (fun z z1 _ => ?_)
      rw [z1 p0.1 p0.2]
      exact hK'
    · rw [List.take_zero]
      exact wk_PT_0 hI
  · rintro n pc ls u ⟨rfl, x4, rfl, h4, hu, rfl⟩
    have F' := hu.2.1
    have hNu := wk_Nm_c F' hN
    have en : wk_nm u h = wk_nm s h := wk_nm_c F'
    have hLu : ∀ K' : Int → sx_S → Prop, K' ((wk_nm s h).length : Int) u → sx_C sL sx (d + 1) 19 [.inr (.inl 18), .inl h] u K' := fun K' hK' => by
      rw [← en] at hK'
      exact c_k_cl hsL (d + 1) (by omega) h u K' hu.1 hNu hK'
    have hu10 := hu.2.2.2.1
    rw [List.length_take] at hu10
    by_cases hx : x4 < (wk_nm s h).length
    · obtain ⟨b, hb⟩ : ∃ b, (wk_nm s h)[x4]? = some b := ⟨_, List.getElem?_eq_getElem hx⟩
      have rb : -2147483648 ≤ b ∧ b ≤ 2147483647 := by
        have hb' := hb
        unfold wk_nm at hb' hx
        rw [List.length_map, List.length_range] at hx
        rw [List.getElem?_map, List.getElem?_range hx] at hb'
        have r3 := hI.arr 3 (by decide) rfl (s.2.1 5 (s.2.1 20 h.toNat).toNat + (x4 : Int)).toNat
        have e := Option.some.inj hb'
        dsimp only at e
        omega
      refine w_k_hc44y (n := ((wk_nm s h).length : Int)) (b := b) (P1 := fun t => wk_PT u t [b]) (by omega) rb (by omega) (by omega) hLu (fun K' hK' => ?_) (fun K' hK' => c_k_put hsL (d + 1) (by omega) b u K' hu.1 rb (by omega) hK') (fun t ht => ?_)
      · refine c_k_cb hsL (d + 1) (by omega) h x4 u K' hu.1 hNu (by rw [en]; exact hx) (fun b' hb' => ?_)
        rw [en, hb] at hb'
        rw [← Option.some.inj hb']
        exact hK'
      · refine ⟨(wk_nm s h).length - (x4 + 1), by omega, rfl, x4 + 1, by rw [show ((x4 + 1 : Nat) : Int) = (x4 : Int) + 1 by omega], by omega, ?_, rfl⟩
        rw [List.take_add_one, hb]
        exact wk_PT_t hu ht
    · refine w_k_hc44n (n := ((wk_nm s h).length : Int)) (by omega) (by omega) (by omega) hLu (hK 0 u ?_)
      rw [List.take_of_length_le (by omega)] at hu
      exact hu
theorem w_k_baN {CALL : sx_Ca} {sL : Nat} {sx : Nat → Int32} {Q : Nat → sx_L → sx_S → Prop} {R : Int → sx_S → Prop} {s : sx_S} {a0 kd ar : Int} {P1 : sx_S → Prop} (rd : 0 < kd ∧ kd ≤ 9) (ra : ar = 0) (h1 : ∀ K : Int → sx_S → Prop, (∀ z t, P1 t → K z t) → CALL 135 [.inr (.inl 55), .inl 32] s K) (hD : ∀ t, P1 t → ∀ K : Int → sx_S → Prop, K kd t → CALL 91 [.inr (.inl 11), .inl a0] t K) (hA : ∀ t, P1 t → ∀ K : Int → sx_S → Prop, K ar t → CALL 94 [.inr (.inl 11), .inl a0] t K) (hK : ∀ t, P1 t → R 0 t) : sx_wp true sL sx eX10_beginArgument CALL [] Q R 400 0 (sx_argsF 0 [.inr (.inl 55), .inl a0]) [] s := by
  repeat' (first | (with_reducible intro _) | (refine And.intro ?_ ?_) | (refine h1 _ (fun zz1 zt1 zp1 => ?_)) | (refine hD zt1 zp1 _ ?_) | (refine hA zt1 zp1 _ ?_) | (fail))
  all_goals (try dsimp only at *)
  all_goals (first | trivial | assumption | omega | (exfalso; omega) | (exact hK _ zp1) | skip)
theorem w_k_baY {CALL : sx_Ca} {sL : Nat} {sx : Nat → Int32} {Q : Nat → sx_L → sx_S → Prop} {R : Int → sx_S → Prop} {s : sx_S} {a0 kd ar mk : Int} {P1 : sx_S → Prop} {P2 P3 : sx_S → sx_S → Prop} (rd : 0 ≤ kd ∧ kd ≤ 9) (ra : -2147483648 ≤ ar ∧ ar ≤ 2147483647) (ho : kd = 0 ∨ 0 < ar) (rm : 0 ≤ mk ∧ mk ≤ 1024) (h1 : ∀ K : Int → sx_S → Prop, (∀ z t, P1 t → K z t) → CALL 135 [.inr (.inl 55), .inl 32] s K) (hD : ∀ t, P1 t → ∀ K : Int → sx_S → Prop, K kd t → CALL 91 [.inr (.inl 11), .inl a0] t K) (hA : ∀ t, P1 t → ∀ K : Int → sx_S → Prop, K ar t → CALL 94 [.inr (.inl 11), .inl a0] t K) (h2 : ∀ t, P1 t → ∀ K : Int → sx_S → Prop, (∀ z t2, P2 t t2 → K z t2) → CALL 135 [.inr (.inl 55), .inl 40] t K) (hM : ∀ t t2, P1 t → P2 t t2 → ∀ K : Int → sx_S → Prop, K mk t2 → CALL 44 [.inr (.inl 29)] t2 K) (h3 : ∀ t t2, P1 t → P2 t t2 → ∀ K : Int → sx_S → Prop, (∀ z t3, P3 t2 t3 → K z t3) → CALL 61 [.inr (.inl 56), .inl (-1), .inl (-1), .inl 2, .inl (-1), .inl 0, .inl mk] t2 K) (hK : ∀ t t2 t3, P1 t → P2 t t2 → P3 t2 t3 → R 0 t3) : sx_wp true sL sx eX10_beginArgument CALL [] Q R 400 0 (sx_argsF 0 [.inr (.inl 55), .inl a0]) [] s := by
  repeat' (first | (with_reducible intro _) | (refine And.intro ?_ ?_) | (refine h1 _ (fun zz1 zt1 zp1 => ?_)) | (refine hD zt1 zp1 _ ?_) | (refine hA zt1 zp1 _ ?_) | (refine h2 zt1 zp1 _ (fun zz2 zt2 zp2 => ?_)) | (refine hM zt1 zt2 zp1 zp2 _ ?_) | (refine h3 zt1 zt2 zp1 zp2 _ (fun zz3 zt3 zp3 => ?_)) | (fail))
  all_goals (try dsimp only at *)
  all_goals (first | trivial | assumption | omega | (exfalso; omega) | (exact hK _ _ _ zp1 zp2 zp3) | skip)
theorem c_k_baN {sL : Nat} {sx : Nat → Int32} (hsL : sL ≤ 3072) (d : Nat) (hd : 4 ≤ d) : ∀ (a0 : Int) (s : sx_S) (K : Int → sx_S → Prop), cx_I s → (0 ≤ a0 ∧ a0 < s.1 11 6) → (0 < s.2.1 12 a0.toNat ∧ s.2.1 12 a0.toNat ≤ 9) → s.2.1 16 a0.toNat = 0 → s.1 55 10 ≤ 900000000 → (∀ z t, wk_PT s t [32] → K z t) → sx_C sL sx d 129 [.inr (.inl 55), .inl a0] s K := by
  intro a0 s K hI p0 rd ra h10 hK
  have f6 := hI.fld 11 6 (by decide) rfl
  obtain ⟨d, rfl⟩ : ∃ e, d = e + 2 := ⟨d - 2, by omega⟩
  refine sx_meth (wr := true) (n := 400) hsL (e := eX10_beginArgument) rfl (w_k_baN (Q := fun _ _ _ => False) (kd := s.2.1 12 a0.toNat) (ar := 0) (P1 := fun t => wk_PT s t [32]) rd rfl (fun K' hK' => c_k_put hsL (d + 1) (by omega) 32 s K' hI (by omega) (by omega) hK') (fun t ht K' hK' => ?_) (fun t ht K' hK' => ?_) (fun t ht => hK 0 t ht))
  · refine c_dz_kind hsL (d + 1) (by omega) a0 t K' ht.1 (by omega) (fun z z1 _ => ?_)
    rw [z1 p0.1 (by rw [(ht.2.1.same 11 rfl).1]; exact p0.2), (ht.2.1.same 12 rfl).2]
    exact hK'
  · refine c_dz_arity hsL (d + 1) (by omega) a0 t K' ht.1 (by omega) (fun z z1 _ => ?_)
    rw [z1 p0.1 (by rw [(ht.2.1.same 11 rfl).1]; exact p0.2), (ht.2.1.same 16 rfl).2, ra]
    exact hK'
theorem c_k_baY {sL : Nat} {sx : Nat → Int32} (hsL : sL ≤ 3072) (d : Nat) (hd : 4 ≤ d) : ∀ (a0 : Int) (s : sx_S) (K : Int → sx_S → Prop), cx_I s → (0 ≤ a0 ∧ a0 < s.1 11 6) → (0 ≤ s.2.1 12 a0.toNat ∧ s.2.1 12 a0.toNat ≤ 9) → (s.2.1 12 a0.toNat = 0 ∨ 0 < s.2.1 16 a0.toNat) → s.1 56 6 < 512 → s.1 55 10 ≤ 900000000 → (∀ z t u, wk_PT s u [32, 40] → cx_I t → cx_F [(56, 62)] u t → dv_pu 56 (-1, -1, 2, -1, 0, s.1 29 3) u t → K z t) → sx_C sL sx d 129 [.inr (.inl 55), .inl a0] s K := by
  intro a0 s K hI p0 rd ho hp h10 hK
  have ra := hI.arr 16 (by decide) rfl a0.toNat
  have f6 := hI.fld 11 6 (by decide) rfl
  have f3 := hI.fld 29 3 (by decide) rfl
  obtain ⟨d, rfl⟩ : ∃ e, d = e + 2 := ⟨d - 2, by omega⟩
  refine sx_meth (wr := true) (n := 400) hsL (e := eX10_beginArgument) rfl (w_k_baY (Q := fun _ _ _ => False) (kd := s.2.1 12 a0.toNat) (ar := s.2.1 16 a0.toNat) (mk := s.1 29 3) (P1 := fun t => wk_PT s t [32]) (P2 := fun t t2 => wk_PT t t2 [40]) (P3 := fun t2 t3 => cx_I t3 ∧ cx_F [(56, 62)] t2 t3 ∧ dv_pu 56 (-1, -1, 2, -1, 0, s.1 29 3) t2 t3) rd ra ho (by omega) (fun K' hK' => c_k_put hsL (d + 1) (by omega) 32 s K' hI (by omega) (by omega) hK') (fun t ht K' hK' => ?_) (fun t ht K' hK' => ?_) (fun t ht K' hK' => ?_) (fun t t2 ht ht2 K' hK' => ?_) (fun t t2 ht ht2 K' hK' => ?_) (fun t t2 t3 ht ht2 ht3 => hK 0 t3 t2 (wk_PT_t ht ht2) ht3.1 ht3.2.1 ht3.2.2))
  · refine c_dz_kind hsL (d + 1) (by omega) a0 t K' ht.1 (by omega) (fun z z1 _ => ?_)
    rw [z1 p0.1 (by rw [(ht.2.1.same 11 rfl).1]; exact p0.2), (ht.2.1.same 12 rfl).2]
    exact hK'
  · refine c_dz_arity hsL (d + 1) (by omega) a0 t K' ht.1 (by omega) (fun z z1 _ => ?_)
    rw [z1 p0.1 (by rw [(ht.2.1.same 11 rfl).1]; exact p0.2), (ht.2.1.same 16 rfl).2]
    exact hK'
  · have e1 : t.1 55 10 = s.1 55 10 + 1 := ht.2.2.2.1
    exact c_k_put hsL (d + 1) (by omega) 40 t K' ht.1 (by omega) (by omega) hK'
  · refine c_dv_mark hsL (d + 1) (by omega) t2 K' ht2.1 (fun z z1 => ?_)
    rw [z1, (ht2.2.1.same 29 rfl).1, (ht.2.1.same 29 rfl).1]
    exact hK'
  · exact c_dv_pair56 hsL (d + 1) (by omega) _ _ _ _ _ _ t2 K' ht2.1 (by rw [(ht2.2.1.same 56 rfl).1, (ht.2.1.same 56 rfl).1]; exact hp) (by omega) (by omega) (by omega) (by omega) (by omega) (by omega) (fun z t3 a b c => hK' z t3 ⟨a, b, c⟩)
end
