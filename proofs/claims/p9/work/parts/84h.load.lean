/-! ===== the desk's load, for what solve numbers ===== -/
theorem dw_LD_c {b : Nat → Int} {n : Int} {l : List vl_I} {s t : sx_S} (h : ∀ p, 2 ≤ p → p ≤ 28 → t.1 p = s.1 p ∧ t.2.1 p = s.2.1 p) (g : dw_LD b n l s) : dw_LD b n l t := by
  have a8 := (h 8 (by decide) (by decide)).1
  have b9 := (h 9 (by decide) (by decide)).2
  have b10 := (h 10 (by decide) (by decide)).2
  exact dw_LD_F (fun bb C M q => dz_E_c h q) (h 11 (by decide) (by decide)).1 (fun k h1 h2 => (h k (by omega) (by omega)).2) (h 25 (by decide) (by decide)).2 (h 26 (by decide) (by decide)).2 (by rw [(h 18 (by decide) (by decide)).1]) (fun j => ⟨by rw [a8]; exact Int.le_refl _, fun _ => ⟨by rw [b9], by rw [b10]⟩⟩) g
