/-! ===== the desk's solve, all of it ===== -/
/-- solve answers z in s, t is left -/
def dl_SO (b : Nat → Int) (n : Int) (l : List vl_I) (s : sx_S) (z : Int) (t : sx_S) : Prop := True → cx_I t ∧ cx_F [(0, 0), (11, 17), (29, 65)] s t ∧ (t.1 0 1 = s.1 0 1 ∧ t.1 0 2 = s.1 0 2) ∧ (s.1 0 2 = 0 → z = -1 ∧ t.1 0 3 = s.1 0 3) ∧ (s.1 0 2 ≠ 0 → s.1 0 3 ≠ -1 → z = s.1 0 3 ∧ t.1 0 3 = s.1 0 3) ∧ (s.1 0 2 ≠ 0 → s.1 0 3 = -1 → t.1 0 3 = z ∧ ((z = 0 ∧ vl_sat (px_SN b n) l) ∨ (z = 1 ∧ ¬ vl_sat (px_SN b n) l)))
theorem c_dl_solve {sL : Nat} {sx : Nat → Int32} (hsL : sL ≤ 3072) (d : Nat) (hd : 14 ≤ d) : ∀ (b : Nat → Int) (n : Int) (l : List vl_I) (s : sx_S) (K : Int → sx_S → Prop), cx_I s → (s.1 0 2 ≠ 0 → s.1 0 3 = -1 → dl_LD b n l s) → (∀ z t, dl_SO b n l s z t → K z t) → sx_C sL sx d 141 [.inr (.inl 0)] s K := by
  intro b n l s K hI hL hK
  obtain ⟨d, rfl⟩ : ∃ e, d = e + 2 := ⟨d - 2, by omega⟩
  refine sx_meth (wr := true) (n := 400) hsL (e := eX11_solve) rfl (w_dl_solve (Q := fun _ _ _ => False) (G := fun z t => cx_I t ∧ cx_F [(11, 17), (29, 54)] s t ∧ ((z = 0 ∧ ¬ vl_sat (px_SN b n) l) ∨ (z = 1 ∧ vl_sat (px_SN b n) l))) (fun c2 c3 K' hK' => c_dl_unI hsL (d + 1) (by omega) b n l s K' hI (hL c2 c3) (fun z t a1 a2 a3 => hK' z t ⟨a1, a2, a3⟩)) (fun z t h => ⟨h.1, by rcases h.2.2 with q | q <;> omega⟩) (c_numberUnknownsD hsL (d + 1) (by omega)) hI (fun c => ?_) (fun c2 c3 => ?_) (fun c2 c3 t ht => ?_) (fun c2 c3 t ht u u1 u2 => ?_))
  · exact hK _ _ (fun _ => ⟨hI, cx_F_refl _ _, ⟨rfl, rfl⟩, fun _ => ⟨rfl, rfl⟩, fun q => absurd c q, fun q => absurd c q⟩)
  · exact hK _ _ (fun _ => ⟨hI, cx_F_refl _ _, ⟨rfl, rfl⟩, fun q => absurd q c2, fun _ _ => ⟨rfl, rfl⟩, fun _ q => absurd q c3⟩)
  · obtain ⟨a1, a2, a3⟩ := ht
    have e0 : t.1 0 = s.1 0 := (a2.same 0 rfl).1
    have e3 : ((sx_uf t.1 0 3 1, t.2) : sx_S).1 0 3 = 1 := px_uS
    have ns : ¬ vl_sat (px_SN b n) l := by
      rcases a3 with q | q
      · exact q.2
      · exact absurd q.1 (by decide)
    refine hK _ _ (fun _ => ⟨cx_I_uf rfl rfl a1 (by omega) (by omega), cx_F_uf rfl (cx_F_step a2 rfl (cx_F_refl _ _)), ⟨?_, ?_⟩, fun q => absurd q c2, fun _ q => absurd c3 q, fun _ _ => ⟨rfl, Or.inr ⟨e3, ns⟩⟩⟩)
    · show sx_uf t.1 0 3 1 0 1 = _
      rw [sx_uf_if, if_neg (by omega), e0]
    · show sx_uf t.1 0 3 1 0 2 = _
      rw [sx_uf_if, if_neg (by omega), e0]
  · obtain ⟨a1, a2, a3⟩ := ht
    have e0 : t.1 0 = s.1 0 := (a2.same 0 rfl).1
    have eu : u.1 0 = sx_uf t.1 0 3 0 0 := (u2.same 0 rfl).1
    have e3 : u.1 0 3 = 0 := by
      rw [eu]
      exact px_us _ _ _ _
    have ns : vl_sat (px_SN b n) l := by
      rcases a3 with q | q
      · exact absurd q.1 (by decide)
      · exact q.2
    refine hK _ _ (fun _ => ⟨u1, cx_F_step u2 rfl (cx_F_uf rfl (cx_F_step a2 rfl (cx_F_refl _ _))), ⟨?_, ?_⟩, fun q => absurd q c2, fun _ q => absurd c3 q, fun _ _ => ⟨rfl, Or.inl ⟨e3, ns⟩⟩⟩)
    · rw [eu]
      show sx_uf t.1 0 3 0 0 1 = _
      rw [sx_uf_if, if_neg (by omega), e0]
    · rw [eu]
      show sx_uf t.1 0 3 0 0 2 = _
      rw [sx_uf_if, if_neg (by omega), e0]
