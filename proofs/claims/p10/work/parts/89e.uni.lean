/-! ===== the types of the unknowns stay: what stands after solving ===== -/
def dx_U (b : Nat → Int) (n : Int) (l : List vl_I) (s t : sx_S) : Prop := True → ∃ (tl : vw_L) (S : vx_S) (PR : Int → List (Int × Int)) (tm' : Int → Int → rf_T), dx_tm (dv_S0 s (dl_ra (vl_mf l [])) (dl_AR s)) (dl_tm (vl_mf l [])) tm' ∧ dv_G (dl_tw s) (dl_tc (vl_kf l [])) (s.1 22 2) (dv_Q (dl_AR s) tl) t S PR tm' [] [] ∧ vx_le (dv_S0 s (dl_ra (vl_mf l [])) (dl_AR s)) S ∧ dx_fr s t ∧ vl_tx (px_SN b n) (dl_TV s) (dl_AR s) l [] [] tl ∧ vw_B tl S ∧ dv_X (dl_tw s) (dl_tc (vl_kf l [])) (dl_tm (vl_mf l [])) s (dl_ra (vl_mf l [])) (dl_AR s) tl ∧ ∀ q ∈ tl, ∃ ty, wk_tb ty ∧ (vx_ty (dl_tw s) (dl_tc (vl_kf l [])) (dl_tm (vl_mf l [])) (dl_AR s) q.1).1 ty ∧ (vx_ty (dl_tw s) (dl_tc (vl_kf l [])) (dl_tm (vl_mf l [])) (dl_AR s) q.2).1 ty
theorem c_dx_un1 {sL : Nat} {sx : Nat → Int32} (hsL : sL ≤ 3072) (d : Nat) (hd : 12 ≤ d) : ∀ (b : Nat → Int) (n : Int) (l : List vl_I) (s : sx_S) (K : Int → sx_S → Prop), cx_I s → dl_LD b n l s → (∀ t, ¬ vl_sat (px_SN b n) l → K 0 t) → (∀ t, dx_U b n l s t → K 1 t) → sx_C sL sx d 70 [.inr (.inl 38), .inr (.inl 18)] s K := by
  intro b n l s K hI hL hK0 hK1
  obtain ⟨⟨n0, n240⟩, hX, hck, ⟨bb, hE⟩, hpr, h6, h10⟩ := hL trivial
  obtain ⟨tl, x1, x2, x3⟩ := dl_Xw hI n0 hX hck hE hpr h6 h10
  have lM := ((hE trivial).2.2.1 trivial).1
  have iff := vl_sat_iff x2
  rw [lM] at iff
  have m5 := (vl_mf_5 hck (by show 0 ≤ 5; decide) (by decide)).1
  refine c_dx_un hsL d hd (dl_ra (vl_mf l [])) (dl_AR s) tl s K hI x1 (fun S th hle hS hQ hB hnl => ?_) (fun t h => hK0 t (fun q => h (iff.mp q))) (fun t S PR tm' h0 h1 h2 h3 h4 => hK1 t (fun _ => ⟨tl, S, PR, tm', h0, h1, h2, h3, x2, h4, x1, fun q hq => (x3 q hq).2.2⟩))
  obtain ⟨_, _, _, _, x6⟩ := x1 trivial
  have idx : ∀ q ∈ tl, (∀ j ∈ rf_idx q.1, S.2.2.2.2 j = dl_AR s j) ∧ ∀ j ∈ rf_idx q.2, S.2.2.2.2 j = dl_AR s j := fun q hq => by
    obtain ⟨i, hi⟩ := List.mem_iff_getElem?.mp hq
    obtain ⟨_, ty, s1, s2⟩ := x6 i q.1 q.2 hi
    exact ⟨fun j hj => hle.2.2.2 j ((s1 trivial).1.1.2.1 j hj), fun j hj => hle.2.2.2 j ((s2 trivial).1.1.2.1 j hj)⟩
  refine vl_cap n0 n240 hX hck x2 idx (fun q hq => (x3 q hq).1) m5 (fun m q hm hne => ?_) hS hB hnl
  apply Classical.byContradiction
  intro hlt
  have p1 := qx_at_pos q.2
  have e0 : dl_ra (vl_mf l []) (m : Int) = 0 := by
    unfold dl_ra
    rw [Int.toNat_natCast, hm]
    have h2 := rf_at_sh q.2
    have h3 := rf_args_at (qx_sh q.2)
    show ((rf_args (qx_sh q.2)).length : Int) = 0
    omega
  have key : ∀ l' : vw_L, (∀ q ∈ l', vx_ok (dl_ra (vl_mf l [])) (dl_AR s) q.1 ∧ vx_ok (dl_ra (vl_mf l [])) (dl_AR s) q.2) → vw_cl (dl_AR s) false (m : Int) l' = 0 := fun l' => by
    induction l' with
    | nil => exact fun _ => rfl
    | cons p r ih =>
      intro h
      show vw_cn (dl_AR s) false (m : Int) p.1 [] + vw_cn (dl_AR s) false (m : Int) p.2 [] + vw_cl (dl_AR s) false (m : Int) r = 0
      rw [ih (fun q hq => h q (List.mem_cons_of_mem _ hq)), vw_cn_b0 e0 (h p List.mem_cons_self).1, vw_cn_b0 e0 (h p List.mem_cons_self).2]
  exact hne (key tl (fun q hq => (x3 q hq).2.1))
theorem c_dx_unI {sL : Nat} {sx : Nat → Int32} (hsL : sL ≤ 3072) (d : Nat) (hd : 12 ≤ d) : ∀ (b : Nat → Int) (n : Int) (l : List vl_I) (s : sx_S) (K : Int → sx_S → Prop), cx_I s → dl_LD b n l s → (∀ t, cx_I t → cx_F [(11, 17), (29, 54)] s t → ¬ vl_sat (px_SN b n) l → K 0 t) → (∀ t, dx_U b n l s t → K 1 t) → sx_C sL sx d 70 [.inr (.inl 38), .inr (.inl 18)] s K := by
  intro b n l s K hI hL hK0 hK1
  refine sx_bothM (e := eX6_unifies) rfl (c_unifiesD hsL d (by omega) s (fun z t => cx_I t ∧ cx_F [(11, 17), (29, 54)] s t ∧ (0 ≤ z ∧ z ≤ 1)) hI (fun z t a1 a2 a3 _ => ⟨a1, a2, a3⟩)) (c_dx_un1 hsL d hd b n l s (fun z t => (z = 0 ∧ ¬ vl_sat (px_SN b n) l) ∨ (z = 1 ∧ dx_U b n l s t)) hI hL (fun t h => Or.inl ⟨rfl, h⟩) (fun t h => Or.inr ⟨rfl, h⟩)) (fun z1 t1 z2 t2 h1 h2 hv hh => ?_)
  obtain ⟨a1, a2, a3⟩ := h1
  have hz2 : z2 = 0 ∨ z2 = 1 := by
    rcases h2 with ⟨q, _⟩ | ⟨q, _⟩
    · exact Or.inl q
    · exact Or.inr q
  have e : z1 = z2 := sx_vo_int hv (by omega) (by omega)
  subst e
  rcases h2 with ⟨q1, q2⟩ | ⟨q1, q2⟩
  · refine ⟨t1, rfl, rfl, ?_⟩
    rw [q1]
    exact hK0 t1 a1 a2 q2
  · refine ⟨t2, hh.symm, ?_, ?_⟩
    · obtain ⟨_, _, _, _, _, _, _, q3, _⟩ := q2 trivial
      have c1 := ((q3 trivial).1.2 0).2
      have c2 := (a2 0).2
      rw [c1, c2]
    · rw [q1]
      exact hK1 t2 q2
