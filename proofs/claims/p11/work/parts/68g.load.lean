/-! ===== what load leaves, for solve ===== -/
theorem vl_TX_px {K : Nat → Int} : ∀ {l : List vl_I} {a : Int}, px_TX K l a → vl_TX K l a
  | [], _, h => h
  | _ :: _, _, ⟨c, h1, h2⟩ => ⟨c, h1, vl_TX_px h2⟩
theorem vl_eq_c3 {SN : Int → Int → Prop} : ∀ {l : List vl_I} {C M : List (Int × qx_T)} {e : Nat}, px_ck SN l C M e → px_c3 5 l = (vl_eq l C M).length
  | [], _, _, _, _ => rfl
  | q :: l, C, M, e, h => by
    have e0 : px_c3 5 (q :: l) = (if q.1.1 = 5 then 1 else 0) + px_c3 5 l := by
      first
        | rfl
        | (show px_c3 5 l + _ = _; omega)
        | (simp only [px_c3]; omega)
    rcases h with ⟨k, _, _, _, h5, h⟩ | ⟨k, h4, _, _, h5, h⟩ | ⟨k, h4, hw, h⟩
    · have e1 : vl_eq (q :: l) C M = vl_eq l (C ++ [q.1.2]) M := by
        show (if q.1.1 = 3 then _ else _) = _
        rw [if_pos k]
      rw [e1, e0, if_neg (by omega), vl_eq_c3 h]
      omega
    · have e1 : vl_eq (q :: l) C M = vl_eq l C (M ++ [q.1.2]) := by
        show (if q.1.1 = 3 then _ else if q.1.1 = 4 then _ else _) = _
        rw [if_neg (by omega), if_pos k]
      rw [e1, e0, if_neg (by omega), vl_eq_c3 h]
      omega
    · have e1 : vl_eq (q :: l) C M = ((C, M), q.2) :: vl_eq l C M := by
        show (if q.1.1 = 3 then _ else if q.1.1 = 4 then _ else _) = _
        rw [if_neg (by omega), if_neg (by omega)]
      rw [e1, e0, if_pos k, vl_eq_c3 h, List.length_cons]
      omega
theorem dl_LD_mk {b bb : Nat → Int} {n : Int} {l : List vl_I} {t : sx_S} (h0 : 0 ≤ n ∧ n ≤ 240) (hX : px_TX (px_K b n) l 0) (hck : px_ck (px_SN b n) l [] [] 0) (h10 : t.1 18 10 = (px_c3 5 l : Int)) (hE : dz_E bb n (vl_kf l []) (vl_mf l []) t) (hpr : dl_pr b n (vl_eq l [] []) t) (h6 : t.1 11 6 ≤ 960) : dl_LD b n l t := fun _ => ⟨h0, vl_TX_px hX, hck, ⟨bb, hE⟩, hpr, h6, by rw [h10, vl_eq_c3 hck]⟩
/-- it stays where nothing of it is touched -/
theorem dl_LD_F {b : Nat → Int} {n : Int} {l : List vl_I} {s t : sx_S} (hE : ∀ bb C M, dz_E bb n C M s → dz_E bb n C M t) (h11 : t.1 11 = s.1 11) (h12 : ∀ k, 12 ≤ k → k ≤ 17 → t.2.1 k = s.2.1 k) (h26 : t.2.1 26 = s.2.1 26) (h18 : t.1 18 10 = s.1 18 10) (hu : dx_tu s t) (h : dl_LD b n l s) : dl_LD b n l t := fun _ => by
  obtain ⟨a1, a2, a3, ⟨bb, a4⟩, a5, a6, a7⟩ := h trivial
  refine ⟨a1, a2, a3, ⟨bb, hE _ _ _ a4⟩, dl_pr_mono (fun _ => ⟨by rw [h11]; exact Int.le_refl _, fun j _ => ?_⟩) ⟨by rw [h11]; exact Int.le_refl _, fun j _ => by rw [h12 17 (by decide) (by decide)]⟩ hu (fun j _ => by rw [h26]) a5, by rw [h11]; exact a6, by rw [h18]; exact a7⟩
  rw [h12 12 (by decide) (by decide), h12 13 (by decide) (by decide), h12 14 (by decide) (by decide), h12 15 (by decide) (by decide), h12 16 (by decide) (by decide)]
  exact ⟨rfl, rfl, rfl, rfl, rfl⟩
