/-- what load leaves, with the roots -/
def dw_LD (b : Nat → Int) (n : Int) (l : List vl_I) (s : sx_S) : Prop := True → dl_LD b n l s ∧ dw_ro (vl_mf l []) (vl_mf l []).length s
theorem dw_LD_F {b : Nat → Int} {n : Int} {l : List vl_I} {s t : sx_S} (hE : ∀ bb C M, dz_E bb n C M s → dz_E bb n C M t) (h11 : t.1 11 = s.1 11) (h12 : ∀ k, 12 ≤ k → k ≤ 17 → t.2.1 k = s.2.1 k) (h25 : t.2.1 25 = s.2.1 25) (h26 : t.2.1 26 = s.2.1 26) (h18 : t.1 18 10 = s.1 18 10) (hu : dx_tu s t) (h : dw_LD b n l s) : dw_LD b n l t := fun _ => by
  obtain ⟨h1, h2⟩ := h trivial
  refine ⟨dl_LD_F hE h11 h12 h26 h18 hu h1, dw_ro_mono (fun _ => ⟨by rw [h11]; exact Int.le_refl _, fun j _ => ?_⟩) ⟨by rw [h11]; exact Int.le_refl _, fun j _ => by rw [h12 17 (by decide) (by decide)]⟩ hu (fun j _ => by rw [h25]) h2⟩
  rw [h12 12 (by decide) (by decide), h12 13 (by decide) (by decide), h12 14 (by decide) (by decide), h12 15 (by decide) (by decide), h12 16 (by decide) (by decide)]
  exact ⟨rfl, rfl, rfl, rfl, rfl⟩
