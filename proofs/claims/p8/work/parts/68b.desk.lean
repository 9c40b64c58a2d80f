/-! ===== what is loaded, as the solver wants it: ARGs by memory, types, the list of sides ===== -/
/-- the heads of a row in memory -/
def dl_hl (H X : Nat → Int) : Nat → Int → List Int
  | 0, _ => []
  | n + 1, z => H z.toNat :: dl_hl H X n (X z.toNat)
def dl_AR (t : sx_S) (j : Nat) : List Int := dl_hl (t.2.1 13) (t.2.1 15) (t.2.1 16 j).toNat (t.2.1 14 j)
theorem dl_hl_hs {t : sx_S} : ∀ {F : rf_N} {z : Int}, dz_nd t F z → dl_hl (t.2.1 13) (t.2.1 15) (rf_len F) z = dz_hs F
  | .leaf, _, _ => rfl
  | .inner j q u F X, z, ⟨⟨h1, _⟩, ⟨_, h2⟩, _, h3⟩ => by
    show t.2.1 13 z.toNat :: dl_hl (t.2.1 13) (t.2.1 15) (rf_len X) (t.2.1 15 z.toNat) = q.2 :: dz_hs X
    rw [show z.toNat = j by omega, dl_hl_hs h3, h2]
theorem dl_AR_ar {t : sx_S} : ∀ {W : rf_N} {z : Int}, dz_nd t W z → dz_ar (t.2.1 16) W → dl_ar (dl_AR t) W
  | .leaf, _, _, _ => trivial
  | .inner j q u F X, z, ⟨_, _, h2, h3⟩, ⟨⟨_, _, a1⟩, a2, a3⟩ => by
    refine ⟨fun q3 => ?_, fun _ => dl_AR_ar h2 a2, dl_AR_ar h3 a3⟩
    have e : t.2.1 16 j = (rf_len F : Int) := a1 (by rw [q3]; decide)
    show dl_hl (t.2.1 13) (t.2.1 15) (t.2.1 16 j).toNat (t.2.1 14 j) = dz_hs F
    rw [e, Int.toNat_natCast]
    exact dl_hl_hs h2
noncomputable def dl_tv (t : sx_S) (v : Int) : rf_T := @dite rf_T (∃ T, dl_TV t v T) (Classical.propDecidable _) (fun h => qx_sh (Classical.choose h)) (fun _ => rf_b)
theorem dl_tv_eq {t : sx_S} {v : Int} {T : qx_T} (h : dl_TV t v T) : dl_tv t v = qx_sh T := by
  unfold dl_tv
  rw [dif_pos ⟨T, h⟩]
  have h' := Classical.choose_spec (⟨T, h⟩ : ∃ T, dl_TV t v T)
  rw [qx_ty_fun h'.2.2 h.2.2]
def dl_tc (C : List (Int × qx_T)) (i : Int) : rf_T := ((C[i.toNat]?).map (fun q => qx_sh q.2)).getD rf_b
def dl_tm (M : List (Int × qx_T)) (m a : Int) : rf_T := ((M[m.toNat]?).map (fun q => vl_ta q.2 a)).getD rf_b
def dl_ra (M : List (Int × qx_T)) (m : Int) : Int := ((M[m.toNat]?).map (fun q => ((rf_args (qx_sh q.2)).length : Int))).getD 0
theorem dl_vE {t : sx_S} {C M Cf Mf : List (Int × qx_T)} (hC : ∀ (i : Nat) q, C[i]? = some q → Cf[i]? = some q) (hM : ∀ (i : Nat) q, M[i]? = some q → Mf[i]? = some q) : vl_E (dl_tv t) (dl_tc Cf) (dl_tm Mf) (dl_ra Mf) C M (dl_TV t) := by
  refine ⟨fun v T h => dl_tv_eq h, fun i q h => ?_, fun i q h => ⟨?_, fun a => ?_⟩⟩
  · unfold dl_tc
    rw [Int.toNat_natCast, hC i q h]
    rfl
  · unfold dl_ra
    rw [Int.toNat_natCast, hM i q h]
    rfl
  · unfold dl_tm
    rw [Int.toNat_natCast, hM i q h]
    rfl
theorem rf_at_sh : ∀ x : qx_T, rf_at (qx_sh x) ≤ qx_at x
  | .leaf => Nat.le_refl _
  | .inner _ k _ x y => by
    cases k with
    | true => exact Nat.le_refl _
    | false =>
      have h1 := rf_at_sh x
      have h2 := rf_at_sh y
      show rf_at (qx_sh x) + rf_at (qx_sh y) ≤ qx_at x + qx_at y
      omega
theorem dl_ra_4 {M : List (Int × qx_T)} (h : ∀ q ∈ M, qx_at q.2 ≤ 5) (m : Int) : 0 ≤ dl_ra M m ∧ dl_ra M m ≤ 4 := by
  unfold dl_ra
  cases e : M[m.toNat]? with
  | none => exact ⟨Int.le_refl _, by show (0 : Int) ≤ 4; decide⟩
  | some q =>
    have h1 := h q (List.mem_of_getElem? e)
    have h2 := rf_at_sh q.2
    have h3 := rf_args_at (qx_sh q.2)
    show (0 : Int) ≤ ((rf_args (qx_sh q.2)).length : Int) ∧ ((rf_args (qx_sh q.2)).length : Int) ≤ 4
    omega
/-- one for each -/
theorem dl_list {α β : Type} {P : Nat → α → β → Prop} : ∀ {E : List α} {o : Nat}, (∀ (k : Nat) p, E[k]? = some p → ∃ y, P (o + k) p y) → ∃ tl : List β, tl.length = E.length ∧ ∀ (k : Nat) p, E[k]? = some p → ∃ y, tl[k]? = some y ∧ P (o + k) p y
  | [], _, _ => ⟨[], rfl, fun k p h => by simp at h⟩
  | p :: E, o, h => by
    obtain ⟨y, hy⟩ := h 0 p rfl
    obtain ⟨tl, t1, t2⟩ := dl_list (E := E) (o := o + 1) (P := P) (fun k q hk => by
      obtain ⟨z, hz⟩ := h (k + 1) q (by rw [List.getElem?_cons_succ]; exact hk)
      exact ⟨z, by rw [show o + 1 + k = o + (k + 1) by omega]; exact hz⟩)
    refine ⟨y :: tl, by rw [List.length_cons, List.length_cons, t1], fun k q hk => ?_⟩
    cases k with
    | zero =>
      have e : p = q := by simpa using hk
      rw [← e]
      exact ⟨y, rfl, hy⟩
    | succ k =>
      rw [List.getElem?_cons_succ] at hk
      obtain ⟨z, z1, z2⟩ := t2 k q hk
      exact ⟨z, by rw [List.getElem?_cons_succ]; exact z1, by rw [show o + (k + 1) = o + 1 + k by omega]; exact z2⟩
theorem vl_kf_at : ∀ {l : List vl_I} {C : List (Int × qx_T)} {i : Nat} {q : Int × qx_T}, C[i]? = some q → (vl_kf l C)[i]? = some q
  | [], _, _, _, h => h
  | p :: r, C, i, q, h => by
    show (if p.1.1 = 3 then vl_kf r (C ++ [p.1.2]) else vl_kf r C)[i]? = some q
    by_cases c : p.1.1 = 3
    · rw [if_pos c]
      refine vl_kf_at ?_
      rw [List.getElem?_append_left (List.getElem?_eq_some_iff.mp h).1]
      exact h
    · rw [if_neg c]
      exact vl_kf_at h
/-- the equations: what is declared before each, and that it is right -/
theorem vl_eq_in {SN : Int → Int → Prop} : ∀ {l : List vl_I} {C M : List (Int × qx_T)} {e : Nat}, px_ck SN l C M e → (∀ q ∈ C, qx_at q.2 ≤ 5) → (∀ q ∈ M, qx_at q.2 ≤ 5) → ∀ p ∈ vl_eq l C M, ((∀ (i : Nat) q, p.1.1[i]? = some q → (vl_kf l C)[i]? = some q) ∧ ∀ (i : Nat) q, p.1.2[i]? = some q → (vl_mf l M)[i]? = some q) ∧ ((∀ q ∈ p.1.1, qx_at q.2 ≤ 5) ∧ ∀ q ∈ p.1.2, qx_at q.2 ≤ 5) ∧ ∃ x, (px_wt SN p.1.1 p.1.2 p.2.1).1 [] x ∧ (px_wt SN p.1.1 p.1.2 p.2.2).1 [] x
  | [], _, _, _, _, _, _, p, hp => absurd hp List.not_mem_nil
  | q :: l, C, M, e, h, hC, hM, p, hp => by
    rcases h with ⟨k, _, _, _, h5, h⟩ | ⟨k, _, _, _, h5, h⟩ | ⟨k, _, hw, h⟩
    · have e1 : vl_eq (q :: l) C M = vl_eq l (C ++ [q.1.2]) M := by
        show (if q.1.1 = 3 then _ else _) = _
        rw [if_pos k]
      have e2 : vl_kf (q :: l) C = vl_kf l (C ++ [q.1.2]) := by
        show (if q.1.1 = 3 then _ else _) = _
        rw [if_pos k]
      have e3 : vl_mf (q :: l) M = vl_mf l M := by
        show (if q.1.1 = 4 then _ else _) = _
        rw [if_neg (by omega)]
      rw [e1] at hp
      rw [e2, e3]
      exact vl_eq_in h (fun z hz => by
        rcases List.mem_append.mp hz with hz | hz
        · exact hC z hz
        · rw [List.mem_singleton.mp hz]
          exact h5) hM p hp
    · have e1 : vl_eq (q :: l) C M = vl_eq l C (M ++ [q.1.2]) := by
        show (if q.1.1 = 3 then _ else if q.1.1 = 4 then _ else _) = _
        rw [if_neg (by omega), if_pos k]
      have e2 : vl_kf (q :: l) C = vl_kf l C := by
        show (if q.1.1 = 3 then _ else _) = _
        rw [if_neg (by omega)]
      have e3 : vl_mf (q :: l) M = vl_mf l (M ++ [q.1.2]) := by
        show (if q.1.1 = 4 then _ else _) = _
        rw [if_pos k]
      rw [e1] at hp
      rw [e2, e3]
      exact vl_eq_in h hC (fun z hz => by
        rcases List.mem_append.mp hz with hz | hz
        · exact hM z hz
        · rw [List.mem_singleton.mp hz]
          exact h5) p hp
    · have e1 : vl_eq (q :: l) C M = ((C, M), q.2) :: vl_eq l C M := by
        show (if q.1.1 = 3 then _ else if q.1.1 = 4 then _ else _) = _
        rw [if_neg (by omega), if_neg (by omega)]
      have e2 : vl_kf (q :: l) C = vl_kf l C := by
        show (if q.1.1 = 3 then _ else _) = _
        rw [if_neg (by omega)]
      have e3 : vl_mf (q :: l) M = vl_mf l M := by
        show (if q.1.1 = 4 then _ else _) = _
        rw [if_neg (by omega)]
      rw [e1] at hp
      rw [e2, e3]
      rcases List.mem_cons.mp hp with rfl | hp
      · exact ⟨⟨fun i z hz => vl_kf_at hz, fun i z hz => vl_mf_at hz⟩, ⟨hC, hM⟩, hw⟩
      · exact vl_eq_in h hC hM p hp
/-- their trees, one by one -/
theorem vl_tx_mk {SN : Int → Int → Prop} {TV : Int → qx_T → Prop} {AR : Nat → List Int} : ∀ {l : List vl_I} {C M : List (Int × qx_T)} {e : Nat} {tl : vw_L}, px_ck SN l C M e → tl.length = (vl_eq l C M).length → (∀ (k : Nat) p, (vl_eq l C M)[k]? = some p → ∃ L R x, tl[k]? = some (L, R) ∧ (vl_tm SN p.1.1 p.1.2 TV AR p.2.1).1 L [] [] x ∧ (vl_tm SN p.1.1 p.1.2 TV AR p.2.2).1 R [] [] x) → vl_tx SN TV AR l C M tl
  | [], C, M, e, tl, _, hl, _ => List.length_eq_zero_iff.mp hl
  | q :: l, C, M, e, tl, h, hl, ht => by
    rcases h with ⟨k, _, _, _, h5, h⟩ | ⟨k, _, _, _, h5, h⟩ | ⟨k, _, hw, h⟩
    · have e1 : vl_eq (q :: l) C M = vl_eq l (C ++ [q.1.2]) M := by
        show (if q.1.1 = 3 then _ else _) = _
        rw [if_pos k]
      rw [e1] at hl ht
      exact Or.inl ⟨k, vl_tx_mk h hl ht⟩
    · have e1 : vl_eq (q :: l) C M = vl_eq l C (M ++ [q.1.2]) := by
        show (if q.1.1 = 3 then _ else if q.1.1 = 4 then _ else _) = _
        rw [if_neg (by omega), if_pos k]
      rw [e1] at hl ht
      exact Or.inr (Or.inl ⟨k, vl_tx_mk h hl ht⟩)
    · have e1 : vl_eq (q :: l) C M = ((C, M), q.2) :: vl_eq l C M := by
        show (if q.1.1 = 3 then _ else if q.1.1 = 4 then _ else _) = _
        rw [if_neg (by omega), if_neg (by omega)]
      rw [e1] at hl ht
      obtain ⟨L, R, x, h1, h2, h3⟩ := ht 0 ((C, M), q.2) rfl
      cases tl with
      | nil => simp at h1
      | cons y tl =>
        have ey : y = (L, R) := by simpa using h1
        rw [List.length_cons, List.length_cons] at hl
        refine Or.inr (Or.inr ⟨k, L, R, tl, x, by rw [ey], h2, h3, vl_tx_mk h (by omega) (fun k' p hp => ?_)⟩)
        obtain ⟨L', R', x', g1, g2, g3⟩ := ht (k' + 1) p (by rw [List.getElem?_cons_succ]; exact hp)
        rw [List.getElem?_cons_succ] at g1
        exact ⟨L', R', x', g1, g2, g3⟩
