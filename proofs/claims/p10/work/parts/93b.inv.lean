/-! ===== the law: what holds between its calls ===== -/
theorem wr_C_cg {b c : Nat → Int} {n : Int} {l : List vl_I} {s : sx_S} (h : ∀ k : Nat, (k : Int) < n → b k = c k) (g : wr_C b n l s) : wr_C c n l s := fun _ => by
  obtain ⟨bb, mt, h1, h2⟩ := g trivial
  exact ⟨bb, mt, fun k hk => (h1 k hk).trans (h k hk), h2⟩
theorem wr_C_45 {b : Nat → Int} {n : Int} {l : List vl_I} {s : sx_S} (h : wr_C b n l s) : s.1 66 45 = ((vl_mf l []).length : Int) := by
  obtain ⟨bb, mt, _, h2⟩ := h trivial
  exact (((h2 trivial).2.2) trivial).1.symm
theorem dk_LD_tx {b : Nat → Int} {n : Int} {l : List vl_I} {s : sx_S} (hI : cx_I s) (h : dk_LD b n l s) : ∃ (TV : Int → qx_T → Prop) (AR : Nat → List Int) (tl : vw_L), vl_tx (px_SN b n) TV AR l [] [] tl ∧ wy_V b n l TV := by
  obtain ⟨⟨n0, n240⟩, hX, hck, ⟨bb, hE⟩, hpr, h6, h10⟩ := ((h trivial).1 trivial).1 trivial
  obtain ⟨tl, _, x2, _⟩ := dl_X hI n0 hX hck hE hpr h6 h10
  exact ⟨_, _, tl, x2, ⟨dl_tv s, fun v T h => dl_tv_eq h⟩, hck⟩
theorem wk_D_22 {b : Nat → Int} {n : Int} {l : List vl_I} {s : sx_S} (h : wk_D b n l s) : s.1 22 2 = ((vl_mf l []).length : Int) := by
  obtain ⟨_, _, _, _, _, _, _, _, _, _, _, _, _, _, _, _, q, _⟩ := h trivial
  exact q.1
theorem wk_D_18 {b : Nat → Int} {n : Int} {l : List vl_I} {s : sx_S} (h : wk_D b n l s) : s.1 18 10 = ((vl_eq l [] []).length : Int) := by
  obtain ⟨_, _, _, _, _, _, _, _, _, _, _, _, _, z1, _, _, _, q, _⟩ := h trivial
  have := (vs_tl_mk (z1 trivial).1.1).1
  omega
theorem wr_D_47 {b : Nat → Int} {n : Int} {l : List vl_I} {s : sx_S} (h : wr_D b n l s) : s.1 66 47 = ((vl_eq l [] []).length : Int) := by
  obtain ⟨_, _, _, hY⟩ := h trivial
  obtain ⟨_, _, _, _, _, _, _, _, _, _, hsd⟩ := hY trivial
  exact hsd.1
/-- what both hold of one text -/
def wv_T (b : Nat → Int) (n : Int) (l : List vl_I) (s : sx_S) : Prop := True → (vk_LD b n l (rf_l0 s) ∧ wr_C b n l s) ∧ (∃ (TV : Int → qx_T → Prop) (AR : Nat → List Int) (tl : vw_L), vl_tx (px_SN b n) TV AR l [] [] tl ∧ wy_V b n l TV) ∧ ((s.1 0 3 = -1 ∧ dk_LD b n l s ∧ s.1 66 78 = 0) ∨ (s.1 0 3 = 0 ∧ vl_sat (px_SN b n) l ∧ wk_D b n l s ∧ s.1 66 78 ≠ 0 ∧ wr_D b n l s) ∨ (s.1 0 3 = 1 ∧ ¬ vl_sat (px_SN b n) l ∧ s.1 66 78 = 0))
def wv_W (b : Nat → Int) (n : Int) (l : List vl_I) (s : sx_S) : Prop := s.1 0 2 = s.1 66 37 ∧ (s.1 0 2 ≠ 0 → wv_T b n l s) ∧ (s.1 0 2 = 0 → s.1 66 78 = 0)
def wv_X (s : sx_S) : Prop := ∃ (b : Nat → Int) (n : Int) (l : List vl_I), wv_W b n l s
/-- a call that leaves it -/
def wv_K (b : Nat → Int) (n : Int) (l : List vl_I) (s t : sx_S) : Prop := True → vz_K s t ∧ t.1 66 78 = s.1 66 78 ∧ (wr_C b n l s → wr_C b n l t) ∧ (s.1 66 78 ≠ 0 → wr_D b n l s → wr_D b n l t) ∧ (s.1 0 2 ≠ 0 → s.1 0 3 = 0 → wk_D b n l s → wk_D b n l t)
section
variable {b : Nat → Int} {n : Int} {l : List vl_I}
theorem wv_K_0 (s : sx_S) : wv_K b n l s s := fun _ => ⟨vz_K_0 s, rfl, fun h => h, fun _ h => h, fun _ _ h => h⟩
theorem wv_K_t {s t u : sx_S} (h2 : wv_K b n l t u) (h1 : wv_K b n l s t) : wv_K b n l s u := fun _ => by
  obtain ⟨a1, a2, a3, a4, a5⟩ := h1 trivial
  obtain ⟨b1, b2, b3, b4, b5⟩ := h2 trivial
  obtain ⟨e1, e2, _⟩ := (a1 trivial).1
  exact ⟨vz_K_t b1 a1, b2.trans a2, fun h => b3 (a3 h), fun q h => b4 (by rw [a2]; exact q) (a4 q h), fun q1 q2 h => b5 (by rw [e1]; exact q1) (by rw [e2]; exact q2) (a5 q1 q2 h)⟩
theorem wv_W_k {s t : sx_S} (h : wv_W b n l s) (k : wv_K b n l s t) : wv_W b n l t := by
  obtain ⟨h1, h2, h3⟩ := h
  obtain ⟨kz, k7, kC, kR, kD⟩ := k trivial
  obtain ⟨⟨k1, k2, k3⟩, k4, k5⟩ := kz trivial
  refine ⟨by omega, fun q _ => ?_, fun q => by rw [k7]; exact h3 (by omega)⟩
  have q' : s.1 0 2 ≠ 0 := by
    rw [← k1]
    exact q
  obtain ⟨⟨g1, gC⟩, g2, g3⟩ := h2 q' trivial
  refine ⟨⟨k5 (by omega) b n l g1, kC gC⟩, g2, ?_⟩
  rw [k2, k7]
  rcases g3 with ⟨q1, q2, q3⟩ | ⟨q1, q2, q3, q4, q5⟩ | q2
  · exact Or.inl ⟨q1, dk_LD_c k4 q2, q3⟩
  · exact Or.inr (Or.inl ⟨q1, q2, kD q' q1 q3, q4, kR q4 q5⟩)
  · exact Or.inr (Or.inr q2)
theorem wv_W_h {s : sx_S} (h : wv_W b n l s) (h2 : s.1 0 2 ≠ 0) (h3 : s.1 0 3 = 0) : wk_D b n l s := by
  obtain ⟨_, _, g3⟩ := h.2.1 h2 trivial
  rcases g3 with ⟨q, _⟩ | ⟨_, _, q, _⟩ | ⟨q, _⟩
  · omega
  · exact q
  · omega
theorem wv_W_r {s : sx_S} (h : wv_W b n l s) (h78 : s.1 66 78 ≠ 0) : wr_D b n l s := by
  by_cases c : s.1 0 2 = 0
  · exact absurd (h.2.2 c) h78
  · obtain ⟨_, _, g3⟩ := h.2.1 c trivial
    rcases g3 with ⟨_, _, q⟩ | ⟨_, _, _, _, q⟩ | ⟨_, _, q⟩
    · exact absurd q h78
    · exact q
    · exact absurd q h78
/-- both have a solution, of as many unknowns, or none has -/
theorem wv_W_e {s : sx_S} (h : wv_W b n l s) : (s.1 66 78 ≠ 0 ∧ s.1 0 2 ≠ 0 ∧ s.1 0 3 = 0 ∧ s.1 22 2 = s.1 66 45 ∧ s.1 18 10 = s.1 66 47) ∨ (s.1 66 78 = 0 ∧ (s.1 0 2 = 0 ∨ s.1 0 3 ≠ 0)) := by
  by_cases c : s.1 0 2 = 0
  · exact Or.inr ⟨h.2.2 c, Or.inl c⟩
  · obtain ⟨⟨_, gC⟩, _, g3⟩ := h.2.1 c trivial
    rcases g3 with ⟨q1, _, q⟩ | ⟨q1, _, q, q4, q5⟩ | ⟨q1, _, q⟩
    · exact Or.inr ⟨q, Or.inr (by omega)⟩
    · refine Or.inl ⟨q4, c, q1, ?_, ?_⟩
      · rw [wk_D_22 q, wr_C_45 gC]
      · rw [wk_D_18 q, wr_D_47 q5]
    · exact Or.inr ⟨q, Or.inr (by omega)⟩
theorem wv_K_w {s t : sx_S} (hI : cx_I t) (h : cx_F [(29, 37), (55, 65)] s t) (hD : s.1 0 2 ≠ 0 → s.1 0 3 = 0 → wk_D b n l t) : wv_K b n l s t := fun _ => ⟨vz_K_w h, by rw [(h.same 66 rfl).1], fun g => wr_C_F h (by decide) (fun k _ => by rw [(h.same 66 rfl).1]) g, fun _ g => wr_D_d hI h rfl g, fun q1 q2 _ => hD q1 q2⟩
theorem wv_K_d {s t : sx_S} (hI : cx_I t) (h : cx_F [(0, 1)] s t) (h2 : t.1 0 2 = s.1 0 2) (h3 : t.1 0 3 = s.1 0 3) : wv_K b n l s t := fun _ => ⟨vz_K_d h h2 h3, by rw [(h.same 66 rfl).1], fun g => wr_C_F h (by decide) (fun k _ => by rw [(h.same 66 rfl).1]) g, fun _ g => wr_D_d hI h rfl g, fun _ _ g => wk_D_F hI h rfl g⟩
theorem wv_K_f {s t : sx_S} (hI : cx_I t) (h : cx_F [(66, 67)] s t) (hf : rf_f [1] s t) : wv_K b n l s t := fun _ => ⟨vz_K_f h hf, hf 78 rfl, fun g => wr_C_F h (by decide) (fun k hk => by
  rcases hk with rfl | rfl | rfl | rfl <;> exact hf _ rfl) g, fun _ g => wr_D_k hI (cx_F_step h rfl (cx_F_refl _ _)) hf g, fun _ _ g => wk_D_F hI h rfl g⟩
theorem wv_K_p {s t : sx_S} (h : rf_BC s) (p : t = s ∨ (s.1 66 78 ≠ 0 ∧ rf_PP s t)) (hD : s.1 66 78 ≠ 0 → wr_D b n l t) : wv_K b n l s t := by
  rcases p with rfl | ⟨p1, p2⟩
  · exact wv_K_0 _
  · intro _
    have kz := vz_K_p h (Or.inr ⟨p1, p2⟩)
    obtain ⟨⟨q1, _⟩, q2, q3⟩ := p2
    exact ⟨kz, q3 78 rfl, fun g => wr_C_F q2 (by decide) (fun k hk => by
      rcases hk with rfl | rfl | rfl | rfl <;> exact q3 _ rfl) g, fun q _ => hD q, fun _ _ g => wk_D_F q1 q2 rfl g⟩
end
