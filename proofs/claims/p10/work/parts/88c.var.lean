/-! ===== the desk puts a variable in its long form: all of it ===== -/
theorem wk_PT_ty {s t : sx_S} {l : List Int} (h : wk_PT s t l) {A : rf_T} {z : Int} (g : wk_ty s A z) : wk_ty t A z := wk_ty_c (by rw [(h.2.1.same 8 rfl).1]) (h.2.1.same 9 rfl).2 (h.2.1.same 10 rfl).2 g
theorem wk_isA {sL : Nat} {sx : Nat → Int32} (hsL : sL ≤ 3072) (d : Nat) (hd : 2 ≤ d) {s : sx_S} {A : rf_T} {z : Int} {K : Int → sx_S → Prop} (hI : cx_I s) (h : wk_ty s A z) (h1 : (rf_args A).length ≠ 0 → K 1 s) (h0 : (rf_args A).length = 0 → K 0 s) : sx_C sL sx d 116 [.inr (.inl 8), .inl z] s K := by
  refine c_dz_isA hsL d hd z s K hI (wk_ty_r hI h) (fun w w0 w1 w2 => ?_)
  cases A with
  | leaf =>
    have e : w = 0 := by
      apply Classical.byContradiction
      intro q
      have := w1 q
      have := h.1
      omega
    rw [e]
    exact h0 rfl
  | inner n u v x y =>
    have e : w = 1 := by
      have : w ≠ 0 := fun q => by
        have := w2 q
        have := h.1
        omega
      omega
    rw [e]
    exact h1 (by show (rf_args y).length + 1 ≠ 0; omega)
theorem st_k_putV {sL : Nat} {sx : Nat → Int32} (hsL : sL ≤ 3072) (m : Nat) {d : Nat} (hd : 6 ≤ d) (h_rec : ∀ m', m = m' + 1 → ∀ (A : rf_T) (a0 a1 a2 a3 : Int) (s : sx_S) (K : Int → sx_S → Prop), cx_I s → wk_ty s A a1 → rf_at A ≤ m' → (0 ≤ a3 ∧ a3 + (rf_at A : Int) ≤ 5) → (0 ≤ a0 ∧ a0 ≤ 99990000) → (0 ≤ a2 ∧ a2 + 5 * (rf_at A : Int) ≤ 99990000) → s.1 55 10 + ((wk_cv A a0 a2).length : Int) ≤ 999990000 → (∀ z t, wk_PT s t (wk_cv A a0 a2) → K z t) → sx_C sL sx (d + 1) 132 [.inr (.inl 55), .inl a0, .inl a1, .inl a2, .inl a3] s K) : ∀ (A : rf_T) (a0 a1 a2 a3 : Int) (s : sx_S) (K : Int → sx_S → Prop), cx_I s → wk_ty s A a1 → rf_at A ≤ m → (0 ≤ a3 ∧ a3 + (rf_at A : Int) ≤ 5) → (0 ≤ a0 ∧ a0 ≤ 99990000) → (0 ≤ a2 ∧ a2 + 5 * (rf_at A : Int) ≤ 99990000) → s.1 55 10 + ((wk_cv A a0 a2).length : Int) ≤ 999990000 → (∀ z t, wk_PT s t (wk_cv A a0 a2) → K z t) → sx_C sL sx (d + 2) 132 [.inr (.inl 55), .inl a0, .inl a1, .inl a2, .inl a3] s K := by
  intro A a0 a1 a2 a3 s K hI hT hm p3 p0 p2 hlen hK
  have hap := rf_at_pos A
  have hak := rf_args_at A
  have r10 := hI.fld 55 10 (by decide) rfl
  have hr1 := wk_ty_r hI hT
  have hx5 : ∃ x5 : Int, (x5 = 0 ∧ (rf_args A).length = 0) ∨ (x5 = 1 ∧ (rf_args A).length ≠ 0) := by
    by_cases c : (rf_args A).length = 0
    · exact ⟨0, Or.inl ⟨rfl, c⟩⟩
    · exact ⟨1, Or.inr ⟨rfl, c⟩⟩
  obtain ⟨x5, hx5⟩ := hx5
  have hcv : ∃ op cl : List Int, wk_cv A a0 a2 = op ++ (wk_bd a2 (rf_args A).length ++ ((120 :: wb_dg a0) ++ (wk_row A a2 (a2 + ((rf_args A).length : Int)) ++ cl))) ∧ ((x5 = 0 ∧ op = [32] ∧ cl = []) ∨ (x5 = 1 ∧ op = [32, 40] ∧ cl = [41])) := by
    rcases hx5 with ⟨e1, e2⟩ | ⟨e1, e2⟩
    · refine ⟨[32], [], ?_, Or.inl ⟨e1, rfl, rfl⟩⟩
      have eA : A = .leaf := by
        cases A with
        | leaf => rfl
        | inner n u v x y =>
          have e2' : (rf_args y).length + 1 = 0 := e2
          omega
      subst eA
      show 32 :: 120 :: wb_dg a0 = 32 :: ([] ++ ((120 :: wb_dg a0) ++ ([] ++ [])))
      simp
    · refine ⟨[32, 40], [41], ?_, Or.inr ⟨e1, rfl, rfl⟩⟩
      unfold wk_cv
      rw [if_neg e2]
      rfl
  obtain ⟨op, cl, ecv, hoc⟩ := hcv
  have hlens := congrArg List.length ecv
  simp only [List.length_append, List.length_cons] at hlens
  have x01 : x5 = 0 ∨ x5 = 1 := by rcases hx5 with q | q <;> omega
  refine sx_methL (wr := true) (n := 400) (n' := 400) (stop := [(50, [0, 1, 2, 3, 4, 5, 6, 7, 8]), (116, [0, 4, 5, 6, 7, 8])]) (fun n pc ls u => (pc = 50 ∧ ∃ (x6 x7 x8 : Int) (B : rf_T) (l : List Int), ls = [(0, .inr (.inl 55)), (1, .inl a0), (2, .inl a1), (3, .inl a2), (4, .inl a3), (5, .inl x5), (6, .inl x6), (7, .inl x7), (8, .inl x8)] ∧ wk_PT s u l ∧ wk_ty u B x7 ∧ (x6 = a2 + x8 ∧ 0 ≤ x8 ∧ x8 + ((rf_args B).length : Int) = ((rf_args A).length : Int)) ∧ l ++ (wk_bd x6 (rf_args B).length ++ ((120 :: wb_dg a0) ++ (wk_row A a2 (a2 + ((rf_args A).length : Int)) ++ cl))) = wk_cv A a0 a2 ∧ n = 100 + (rf_args B).length) ∨ (pc = 116 ∧ ∃ (x7 x8 : Int) (B : rf_T) (l : List Int), ls = [(0, .inr (.inl 55)), (4, .inl a3), (5, .inl x5), (6, .inl (a2 + ((rf_args A).length : Int))), (7, .inl x7), (8, .inl x8)] ∧ wk_PT s u l ∧ wk_ty u B x7 ∧ (a2 ≤ x8 ∧ x8 + ((rf_args B).length : Int) = a2 + ((rf_args A).length : Int)) ∧ rf_at B ≤ rf_at A ∧ l ++ (wk_row B x8 (a2 + ((rf_args A).length : Int)) ++ cl) = wk_cv A a0 a2 ∧ n = (rf_args B).length)) hsL (e := eX10_putVariable) rfl ?_ ?_
  · rcases hx5 with ⟨e1, e2⟩ | ⟨e1, e2⟩
    · refine w_k_vn (P1 := fun t => wk_PT s t [32]) (by omega) hr1 (by omega) (by omega) (fun K' hK' => wk_isA hsL (d + 1) (by omega) hI hT (fun q => absurd e2 q) (fun _ => hK')) (fun K' hK' => c_k_put hsL (d + 1) (by omega) 32 s K' hI (by omega) (by omega) hK') (fun t ht => ?_)
      refine ⟨_, Or.inl ⟨rfl, a2, a1, 0, A, [32], by rw [e1], ht, wk_PT_ty ht hT, ⟨by omega, by omega, by omega⟩, ?_, rfl⟩⟩
      rcases hoc with ⟨_, o1, _⟩ | ⟨q, _⟩
      · rw [ecv, o1]
      · omega
    · refine w_k_vy (P1 := fun t => wk_PT s t [32]) (P2 := fun t t2 => wk_PT t t2 [40]) (by omega) hr1 (by omega) (by omega) (fun K' hK' => wk_isA hsL (d + 1) (by omega) hI hT (fun _ => hK') (fun q => absurd q e2)) (fun K' hK' => c_k_put hsL (d + 1) (by omega) 32 s K' hI (by omega) (by omega) hK') (fun t ht K' hK' => ?_) (fun t t2 ht ht2 => ?_)
      · have e3 : t.1 55 10 = s.1 55 10 + 1 := ht.2.2.2.1
        exact c_k_put hsL (d + 1) (by omega) 40 t K' ht.1 (by omega) (by omega) hK'
      · have hp : wk_PT s t2 [32, 40] := wk_PT_t ht ht2
        refine ⟨_, Or.inl ⟨rfl, a2, a1, 0, A, [32, 40], by rw [e1], hp, wk_PT_ty hp hT, ⟨by omega, by omega, by omega⟩, ?_, rfl⟩⟩
        rcases hoc with ⟨q, _⟩ | ⟨_, o1, _⟩
        · omega
        · rw [ecv, o1]
  · rintro n pc ls u (⟨rfl, x6, x7, x8, B, l, rfl, hu, hB, ⟨h6, h8, hBl⟩, hl, rfl⟩ | ⟨rfl, x7, x8, B, l, rfl, hu, hB, ⟨h8, hBl⟩, hBA, hl, rfl⟩)
    · have hll := congrArg List.length hl
      simp only [List.length_append, List.length_cons] at hll
      have hu10 := hu.2.2.2.1
      have hr7 := wk_ty_r hu.1 hB
      by_cases c : (rf_args B).length = 0
      · refine w_k_v50n (P1 := fun t => wk_PT u t [120]) (P2 := fun t t2 => wk_PT t t2 (wb_dg a0)) (by omega) hr1 (by omega) x01 hr7 (by omega) (fun _ K' hK' => wk_isA hsL (d + 1) (by omega) hu.1 hB (fun q => absurd c q) (fun _ => hK')) (fun K' hK' => c_k_put hsL (d + 1) (by omega) 120 u K' hu.1 (by omega) (by omega) hK') (fun t ht K' hK' => ?_) (fun t t2 ht ht2 => ?_)
        · have e3 : t.1 55 10 = u.1 55 10 + 1 := ht.2.2.2.1
          exact c_k_putN hsL (d + 1) (by omega) a0 t K' ht.1 (by omega) (by omega) hK'
        · have hp : wk_PT s t2 (l ++ (120 :: wb_dg a0)) := wk_PT_t hu (wk_PT_t ht ht2)
          refine ⟨(rf_args A).length, by omega, Or.inr ⟨rfl, a1, a2, A, l ++ (120 :: wb_dg a0), ?_, hp, wk_PT_ty hp hT, ⟨by omega, by omega⟩, Nat.le_refl _, ?_, rfl⟩⟩
          · rw [show x6 = a2 + ((rf_args A).length : Int) by omega]
          · rw [← hl, c, List.append_assoc]
            rfl
      · cases B with
        | leaf => exact absurd rfl c
        | inner bn bu bv B1 B2 =>
          obtain ⟨b1, b2, b3⟩ := hB
          have eb : (rf_args (.inner bn bu bv B1 B2)).length = (rf_args B2).length + 1 := rfl
          have ebd : wk_bd x6 (rf_args (.inner bn bu bv B1 B2)).length = (92 :: 120 :: (wb_dg x6 ++ [46])) ++ wk_bd (x6 + 1) (rf_args B2).length := rfl
          have ex5 : x5 = 1 := by
            rcases hx5 with ⟨_, q⟩ | ⟨q, _⟩
            · omega
            · exact q
          have dl := wb_dg_len x6
          rw [ex5]
          have hbl : (92 :: 120 :: (wb_dg x6 ++ [46])).length + (wk_bd (x6 + 1) (rf_args B2).length).length = (wk_bd x6 (rf_args (.inner bn bu bv B1 B2)).length).length := by rw [ebd, List.length_append]
          refine w_k_v50y (r := u.2.1 10 x7.toNat) (P1 := fun t => wk_PT u t (92 :: 120 :: (wb_dg x6 ++ [46]))) (by omega) hr7 (by omega) (fun K' hK' => wk_isA hsL (d + 1) (by omega) hu.1 (A := .inner bn bu bv B1 B2) ⟨b1, b2, b3⟩ (fun _ => hK') (fun q => absurd q c)) (fun K' hK' => c_k_putB hsL (d + 1) (by omega) x6 u K' hu.1 (by omega) (by omega) hK') (fun t ht K' hK' => ?_) (wk_ty_r hu.1 b3) (fun t ht => ?_)
          · refine c_dz_to hsL (d + 1) (by omega) x7 t K' ht.1 hr7 (fun z z1 _ => ?_)
            rw [z1 b1.1 (by rw [(ht.2.1.same 8 rfl).1]; exact b1.2), (ht.2.1.same 10 rfl).2]
            exact hK'
          · have hp : wk_PT s t (l ++ (92 :: 120 :: (wb_dg x6 ++ [46]))) := wk_PT_t hu ht
            refine ⟨100 + (rf_args B2).length, by omega, Or.inl ⟨rfl, x6 + 1, u.2.1 10 x7.toNat, x8 + 1, B2, l ++ (92 :: 120 :: (wb_dg x6 ++ [46])), rfl, hp, wk_PT_ty ht b3, ⟨by omega, by omega, by omega⟩, ?_, rfl⟩⟩
            rw [← hl, ebd]
            simp only [List.append_assoc]
    · have hll := congrArg List.length hl
      simp only [List.length_append] at hll
      have hu10 := hu.2.2.2.1
      have hr7 := wk_ty_r hu.1 hB
      cases B with
      | leaf =>
        have e0 : (rf_args (.leaf : rf_T)).length = 0 := rfl
        rw [e0] at hBl
        have erow : wk_row .leaf x8 (a2 + ((rf_args A).length : Int)) = [] := rfl
        rw [erow] at hl hll
        refine w_k_v116n (P1 := fun t => wk_PT u t [41]) x01 (by omega) (by omega) (fun q K' hK' => ?_) (fun q => hK 0 u ?_) (fun q t ht => hK 0 t ?_)
        · refine c_k_put hsL (d + 1) (by omega) 41 u K' hu.1 (by omega) ?_ hK'
          have : (([] : List Int).length) = 0 := rfl
          omega
        · rcases hoc with ⟨_, _, o2⟩ | ⟨q', _⟩
          · rw [o2] at hl
            simp only [List.append_nil, List.nil_append] at hl
            rw [← hl]
            exact hu
          · omega
        · rcases hoc with ⟨q', _⟩ | ⟨_, _, o2⟩
          · omega
          · rw [o2] at hl
            simp only [List.nil_append] at hl
            rw [← hl]
            exact wk_PT_t hu ht
      | inner bn bu bv B1 B2 =>
        obtain ⟨b1, b2, b3⟩ := hB
        have eb : (rf_args (.inner bn bu bv B1 B2)).length = (rf_args B2).length + 1 := rfl
        have ea : rf_at (.inner bn bu bv B1 B2) = rf_at B1 + rf_at B2 := rfl
        have pb1 := rf_at_pos B1
        have pb2 := rf_at_pos B2
        have erow := wk_row_in bn bu bv B1 B2 x8 (a2 + ((rf_args A).length : Int))
        have hrl : (wk_row (.inner bn bu bv B1 B2) x8 (a2 + ((rf_args A).length : Int))).length = (wk_cv B1 x8 (a2 + ((rf_args A).length : Int))).length + (wk_row B2 (x8 + 1) (a2 + ((rf_args A).length : Int))).length := by rw [erow, List.length_append]
        obtain ⟨m', em⟩ : ∃ m', m = m' + 1 := ⟨m - 1, by omega⟩
        refine w_k_v116y (f := u.2.1 9 x7.toNat) (r := u.2.1 10 x7.toNat) (P1 := fun t => wk_PT u t (wk_cv B1 x8 (a2 + ((rf_args A).length : Int)))) (by omega) (by omega) hr7 (by omega) (fun K' hK' => ?_) (wk_ty_r hu.1 b2) (fun y hy K' hK' => ?_) (fun t ht K' hK' => ?_) (wk_ty_r hu.1 b3) (fun t ht => ?_)
        · refine c_dz_from hsL (d + 1) (by omega) x7 u K' hu.1 hr7 (fun z z1 _ => ?_)
          rw [z1 b1.1 b1.2]
          exact hK'
        · exact h_rec m' em B1 x8 _ _ y u K' hu.1 b2 (by omega) (by omega) (by omega) (by omega) (by omega) hK'
        · refine c_dz_to hsL (d + 1) (by omega) x7 t K' ht.1 hr7 (fun z z1 _ => ?_)
          rw [z1 b1.1 (by rw [(ht.2.1.same 8 rfl).1]; exact b1.2), (ht.2.1.same 10 rfl).2]
          exact hK'
        · have hp := wk_PT_t hu ht
          refine ⟨(rf_args B2).length, by omega, Or.inr ⟨rfl, u.2.1 10 x7.toNat, x8 + 1, B2, _, rfl, hp, wk_PT_ty ht b3, ⟨by omega, by omega⟩, by omega, ?_, rfl⟩⟩
          rw [← hl, erow]
          simp only [List.append_assoc]
theorem c_k_putV {sL : Nat} {sx : Nat → Int32} (hsL : sL ≤ 3072) : ∀ m : Nat, ∀ d, 8 + m ≤ d → ∀ (A : rf_T) (a0 a1 a2 a3 : Int) (s : sx_S) (K : Int → sx_S → Prop), cx_I s → wk_ty s A a1 → rf_at A ≤ m → (0 ≤ a3 ∧ a3 + (rf_at A : Int) ≤ 5) → (0 ≤ a0 ∧ a0 ≤ 99990000) → (0 ≤ a2 ∧ a2 + 5 * (rf_at A : Int) ≤ 99990000) → s.1 55 10 + ((wk_cv A a0 a2).length : Int) ≤ 999990000 → (∀ z t, wk_PT s t (wk_cv A a0 a2) → K z t) → sx_C sL sx d 132 [.inr (.inl 55), .inl a0, .inl a1, .inl a2, .inl a3] s K := by
  intro m
  induction m with
  | zero =>
    intro d hd
    obtain ⟨d, rfl⟩ : ∃ e, d = e + 2 := ⟨d - 2, by omega⟩
    exact st_k_putV hsL 0 (by omega) (fun m' h => absurd h (by omega))
  | succ m ih =>
    intro d hd
    obtain ⟨d, rfl⟩ : ∃ e, d = e + 2 := ⟨d - 2, by omega⟩
    exact st_k_putV hsL (m + 1) (by omega) (fun m' h => by
      obtain rfl : m = m' := by omega
      exact ih (d + 1) (by omega))
