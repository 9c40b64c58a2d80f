/-! ===== a variable in its long form: the desk's bytes are the value's ===== -/
abbrev wk_pb (c : Int) (o : List Int) : List Int := o ++ [c]
theorem wk_fl : ∀ (l o : List Int), l.foldl (fun o c => wk_pb c o) o = o ++ l
  | [], o => (List.append_nil o).symm
  | c :: l, o => by
    show l.foldl (fun o c => wk_pb c o) (o ++ [c]) = _
    rw [wk_fl l (o ++ [c]), List.append_assoc]
    rfl
theorem wk_bs (l : List Int) (w : we_A (List Int)) : we_bs wk_pb l w = (w.1, w.2 ++ l) := by
  unfold we_bs
  rw [wk_fl]
section
variable {nm : Int → List Int} {hf : Int → List Int → Int → we_A (List Int) → we_A (List Int)}
theorem wk_lm_w {T : rf_N} : ∀ (n : Nat) (L : Int) (w : we_A (List Int)), (we_w wk_pb wb_dg nm hf (vq_lm n T)).1 L w = (we_w wk_pb wb_dg nm hf T).1 (L + (n : Int)) (w.1, w.2 ++ wk_bd L n)
  | 0, L, w => by
    show (we_w wk_pb wb_dg nm hf T).1 L w = (we_w wk_pb wb_dg nm hf T).1 (L + 0) (w.1, w.2 ++ [])
    rw [Int.add_zero, List.append_nil]
  | n + 1, L, w => by
    show (we_w wk_pb wb_dg nm hf (rf_n 0 0 0 (vq_lm n T) .leaf)).1 L w = _
    rw [we_lam, wk_bs, wk_lm_w n (L + 1)]
    have e1 : L + 1 + (n : Int) = L + ((n + 1 : Nat) : Int) := by omega
    have e2 : wk_bd L (n + 1) = (92 :: 120 :: (wb_dg L ++ [46])) ++ wk_bd (L + 1) n := rfl
    rw [e1, e2, ← List.append_assoc]
theorem wk_cv_w {A : rf_T} (hr : ∀ (i M : Int) (w : we_A (List Int)), (we_w wk_pb wb_dg nm hf (vq_row A i M)).2 M w = (w.1, w.2 ++ wk_row A i M)) (n M : Int) (w : we_A (List Int)) : we_gv wk_pb (vq_cv A n M) (we_w wk_pb wb_dg nm hf (vq_cv A n M)).1 M (we_bs wk_pb [32] w) = (w.1, w.2 ++ wk_cv A n M) := by
  by_cases hz : (rf_args A).length = 0
  · have e0 : vq_cv A n M = rf_n 0 2 n (vq_row A M (M + ((rf_args A).length : Int))) .leaf := by
      unfold vq_cv
      rw [hz]
      rfl
    have e1 : wk_cv A n M = 32 :: (120 :: wb_dg n) := by
      unfold wk_cv
      rw [if_pos hz]
    have e2 : vq_row A M (M + ((rf_args A).length : Int)) = .leaf := by
      cases A with
      | leaf => rfl
      | inner z u v X Y =>
        exfalso
        revert hz
        show (X :: rf_args Y).length = 0 → False
        rw [List.length_cons]
        omega
    rw [e0, e1, e2]
    show we_g wk_pb (2, n) .leaf (we_w wk_pb wb_dg nm hf (rf_n 0 2 n .leaf .leaf)).1 M (we_bs wk_pb [32] w) = _
    unfold we_g
    rw [if_neg (show ¬ ((2 : Int) = 0 ∨ rf_len .leaf ≠ 0) from fun c => c.elim (by decide) (fun d => d rfl)), we_var, we_w_0, wk_bs, wk_bs]
    show (w.1, w.2 ++ [32] ++ (120 :: wb_dg n)) = _
    rw [List.append_assoc]
    rfl
  · obtain ⟨k, hk⟩ : ∃ k, (rf_args A).length = k + 1 := ⟨(rf_args A).length - 1, by omega⟩
    have e1 : wk_cv A n M = 32 :: (40 :: (wk_bd M (rf_args A).length ++ ((120 :: wb_dg n) ++ (wk_row A M (M + ((rf_args A).length : Int)) ++ [41])))) := by
      unfold wk_cv
      rw [if_neg hz]
    have e2 : wz_q (vq_cv A n M) = (0, 0) := by
      unfold vq_cv
      rw [hk]
      rfl
    unfold we_gv we_g
    rw [e2, if_pos (Or.inl rfl), e1]
    unfold vq_cv
    rw [wk_lm_w, we_var, hr, wk_bs, wk_bs, wk_bs, wk_bs]
    show (w.1, _) = (w.1, _)
    congr 1
    simp only [List.append_assoc, List.cons_append, List.nil_append]
theorem wk_row_w : ∀ (A : rf_T) (i M : Int) (w : we_A (List Int)), (we_w wk_pb wb_dg nm hf (vq_row A i M)).2 M w = (w.1, w.2 ++ wk_row A i M)
  | .leaf, i, M, w => by
    show w = (w.1, w.2 ++ [])
    rw [List.append_nil]
  | .inner z u v A B, i, M, w => by
    rw [vq_row_in, (we_w_sb (vq_cv_on A i M) M w).2, wk_cv_w (wk_row_w A), wk_row_w B, wk_row_in, List.append_assoc]
theorem wk_rl_w : ∀ (Ts : List rf_T) (Ls : List Int) (M : Int) (w : we_A (List Int)), (we_w wk_pb wb_dg nm hf (vq_rl Ts Ls M)).2 M w = (w.1, w.2 ++ wk_rl Ts Ls M)
  | A :: As, n :: ns, M, w => by
    show (we_w wk_pb wb_dg nm hf (vx_sb (vq_cv A n M) (vq_rl As ns M))).2 M w = (w.1, w.2 ++ (wk_cv A n M ++ wk_rl As ns M))
    rw [(we_w_sb (vq_cv_on A n M) M w).2, wk_cv_w (wk_row_w A), wk_rl_w As ns M, List.append_assoc]
  | [], _, M, w => by
    have e1 : ∀ ns, vq_rl [] ns M = .leaf := fun ns => by unfold vq_rl; rfl
    have e2 : ∀ ns, wk_rl [] ns M = [] := fun ns => by unfold wk_rl; rfl
    rw [e1, e2, we_w_0, List.append_nil]
  | A :: As, [], M, w => by
    have e1 : vq_rl (A :: As) [] M = .leaf := by unfold vq_rl; rfl
    have e2 : wk_rl (A :: As) [] M = [] := by unfold wk_rl; rfl
    rw [e1, e2, we_w_0, List.append_nil]
/-- a hole, as the value writes it -/
theorem wk_hf (ht : Int → List rf_T) (h : Int) (xs : List Int) (dp : Int) (w : we_A (List Int)) : we_hf wk_pb wb_dg nm ht h xs dp w = (wz_ad w.1 h xs, w.2 ++ ((104 :: wb_dg (vx_ii ((wz_ad w.1 h xs).map Prod.fst) h)) ++ wk_rl ((List.range xs.length).map (fun p => (ht h).getD (we_od (we_rw (wz_ad w.1 h xs) h) p) .leaf)) ((List.range xs.length).map (fun p => xs.getD (we_od (we_rw (wz_ad w.1 h xs) h) p) (-1))) dp)) := by
  unfold we_hf
  rw [wk_rl_w, wk_bs]
  show (_, _) = (_, _)
  congr 1
  rw [List.append_assoc]
end
