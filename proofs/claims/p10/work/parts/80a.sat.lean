/-! ===== one text, read by both ===== -/
theorem vk_eq_vl : ∀ (l : List vl_I) (C M : List (Int × qx_T)), vk_eq l C M = vl_eq l C M
  | [], _, _ => rfl
  | q :: l, C, M => by
    show (if q.1.1 = 3 then vk_eq l (C ++ [q.1.2]) M else if q.1.1 = 4 then vk_eq l C (M ++ [q.1.2]) else ((C, M), q.2) :: vk_eq l C M) = (if q.1.1 = 3 then vl_eq l (C ++ [q.1.2]) M else if q.1.1 = 4 then vl_eq l C (M ++ [q.1.2]) else ((C, M), q.2) :: vl_eq l C M)
    rw [vk_eq_vl l (C ++ [q.1.2]) M, vk_eq_vl l C (M ++ [q.1.2]), vk_eq_vl l C M]
theorem vk_mf_vl : ∀ (l : List vl_I) (M : List (Int × qx_T)), vk_mf l M = vl_mf l M
  | [], _ => rfl
  | q :: l, M => by
    show (if q.1.1 = 4 then vk_mf l (M ++ [q.1.2]) else vk_mf l M) = (if q.1.1 = 4 then vl_mf l (M ++ [q.1.2]) else vl_mf l M)
    rw [vk_mf_vl l (M ++ [q.1.2]), vk_mf_vl l M]
theorem vs_tl_mk {SN : Int → Int → Prop} {TV : Int → qx_T → Prop} {AR : Nat → List Int} : ∀ {l : List vl_I} {C M : List (Int × qx_T)} {tl : vw_L}, vl_tx SN TV AR l C M tl → tl.length = (vl_eq l C M).length ∧ ∀ (k : Nat) p, (vl_eq l C M)[k]? = some p → ∃ W V x y, tl[k]? = some (W, V) ∧ (vl_tm SN p.1.1 p.1.2 TV AR p.2.1).1 W [] [] x ∧ (vl_tm SN p.1.1 p.1.2 TV AR p.2.2).1 V [] [] y
  | [], C, M, tl, h => by
    have e : tl = [] := h
    subst e
    exact ⟨rfl, fun k p hp => by
      have : (none : Option ((List (Int × qx_T) × List (Int × qx_T)) × (px_N × px_N))) = some p := hp
      cases this⟩
  | q :: l, C, M, tl, h => by
    rcases h with ⟨k, h⟩ | ⟨k, h⟩ | ⟨k, L, R, l1, x, e, a1, a2, h⟩
    · have e1 : vl_eq (q :: l) C M = vl_eq l (C ++ [q.1.2]) M := by
        show (if q.1.1 = 3 then _ else _) = _
        rw [if_pos k]
      rw [e1]
      exact vs_tl_mk h
    · have e1 : vl_eq (q :: l) C M = vl_eq l C (M ++ [q.1.2]) := by
        show (if q.1.1 = 3 then _ else if q.1.1 = 4 then _ else _) = _
        rw [if_neg (by omega), if_pos k]
      rw [e1]
      exact vs_tl_mk h
    · have e1 : vl_eq (q :: l) C M = ((C, M), q.2) :: vl_eq l C M := by
        show (if q.1.1 = 3 then _ else if q.1.1 = 4 then _ else _) = _
        rw [if_neg (by omega), if_neg (by omega)]
      obtain ⟨i1, i2⟩ := vs_tl_mk h
      subst e
      rw [e1]
      refine ⟨by rw [List.length_cons, List.length_cons, i1], fun k p hp => ?_⟩
      cases k with
      | zero =>
        have ep : ((C, M), q.2) = p := Option.some.inj hp
        rw [← ep]
        exact ⟨L, R, x, x, rfl, a1, a2⟩
      | succ k =>
        rw [List.getElem?_cons_succ] at hp
        obtain ⟨W, V, x, y, t1, t2⟩ := i2 k p hp
        exact ⟨W, V, x, y, by rw [List.getElem?_cons_succ]; exact t1, t2⟩
theorem vs_tl_vl {SN : Int → Int → Prop} {TV : Int → qx_T → Prop} {AR : Nat → List Int} {l : List vl_I} {tl : vw_L} (h : vl_tx SN TV AR l [] [] tl) : vs_tl SN TV AR (vk_eq l [] []) tl := by
  rw [vk_eq_vl]
  exact vs_tl_mk h
theorem vs_sat_vl {SN : Int → Int → Prop} {TV : Int → qx_T → Prop} {AR : Nat → List Int} {l : List vl_I} {tl : vw_L} (h : vl_tx SN TV AR l [] [] tl) : vs_sat AR tl (vk_mf l []) ↔ vl_sat SN l := by
  rw [vl_sat_iff h, vk_mf_vl]
  constructor
  · rintro ⟨th, ⟨g, sc⟩, q⟩
    refine ⟨th, g, fun u u0 u1 => sc u u0 u1, fun p hp => ?_⟩
    obtain ⟨i, hi⟩ := List.mem_iff_getElem?.mp hp
    have hl : i < tl.length := (List.getElem?_eq_some_iff.mp hi).1
    exact q (i : Int) (by omega) (by omega) p (by rw [Int.toNat_natCast]; exact hi)
  · rintro ⟨th, g, sc, q⟩
    exact ⟨th, ⟨g, fun u u0 u1 => sc u u0 u1⟩, fun i i0 i1 p hp => q p (List.mem_of_getElem? hp)⟩
/-! what the desk's load leaves stays where its cells stay -/
theorem dz_E_c {b : Nat → Int} {n : Int} {C M : List (Int × qx_T)} {s t : sx_S} (h : ∀ p, 2 ≤ p → p ≤ 28 → t.1 p = s.1 p ∧ t.2.1 p = s.2.1 p) (g : dz_E b n C M s) : dz_E b n C M t := by
  have a2 := (h 2 (by decide) (by decide)).1
  have a8 := (h 8 (by decide) (by decide)).1
  have a19 := (h 19 (by decide) (by decide)).1
  have a22 := (h 22 (by decide) (by decide)).1
  have b3 := (h 3 (by decide) (by decide)).2
  have b4 := (h 4 (by decide) (by decide)).2
  have b5 := (h 5 (by decide) (by decide)).2
  have b6 := (h 6 (by decide) (by decide)).2
  have b9 := (h 9 (by decide) (by decide)).2
  have b10 := (h 10 (by decide) (by decide)).2
  have b20 := (h 20 (by decide) (by decide)).2
  have b21 := (h 21 (by decide) (by decide)).2
  have b23 := (h 23 (by decide) (by decide)).2
  have b24 := (h 24 (by decide) (by decide)).2
  unfold dz_E dz_TN px_TK px_DE px_DT dz_DL dx_TI dx_is at g ⊢
  simp only [a2, a8, a19, a22, b3, b4, b5, b6, b9, b10, b20, b21, b23, b24]
  exact g
