/-! ===== the desk's unifies: the text has a solution, or not ===== -/
theorem vl_tx_Q {SN : Int → Int → Prop} {TV TV' : Int → qx_T → Prop} {AR AR' : Nat → List Int} {th : Int → rf_N} (hg : ∀ m, vx_on (th m)) : ∀ {l : List vl_I} {C M : List (Int × qx_T)} {tl tl' : vw_L}, vl_tx SN TV AR l C M tl → vl_tx SN TV' AR' l C M tl' → dv_Q AR tl th → dv_Q AR' tl' th
  | [], C, M, tl, tl', h, h', _ => by
    have e : tl' = [] := h'
    subst e
    exact fun q hq => absurd hq List.not_mem_nil
  | p :: l, C, M, tl, tl', h, h', hQ => by
    rcases h with ⟨k, h⟩ | ⟨k, h⟩ | ⟨k, L, R, l1, x, e, a1, a2, h⟩ <;> rcases h' with ⟨k', h'⟩ | ⟨k', h'⟩ | ⟨k', L', R', l1', x', e', a1', a2', h'⟩
    · exact vl_tx_Q hg h h' hQ
    · omega
    · omega
    · omega
    · exact vl_tx_Q hg h h' hQ
    · omega
    · omega
    · omega
    · subst e e'
      intro q hq
      rcases List.mem_cons.mp hq with rfl | hq
      · have b1 := ((vl_tm_eq (th := th) hg (fun h1 h2 => px_pv_fun.2 h1 h2)).1 (Γ := []) (ρ := []) (ρ' := []) rfl a1 a1').2 (dv_lk []) (dv_lk []) 0 ⟨rfl, fun _ h => absurd h (Nat.not_lt_zero _)⟩
        have b2 := ((vl_tm_eq (th := th) hg (fun h1 h2 => px_pv_fun.2 h1 h2)).1 (Γ := []) (ρ := []) (ρ' := []) rfl a2 a2').2 (dv_lk []) (dv_lk []) 0 ⟨rfl, fun _ h => absurd h (Nat.not_lt_zero _)⟩
        have c := hQ (L, R) List.mem_cons_self
        show vx_val th AR' L' (dv_lk []) 0 = vx_val th AR' R' (dv_lk []) 0
        rw [← b1, ← b2]
        exact c
      · exact vl_tx_Q hg h h' (fun p hp => hQ p (List.mem_cons_of_mem _ hp)) q hq
/-- the text's equations have a solution -/
def vl_sat (SN : Int → Int → Prop) (l : List vl_I) : Prop := ∃ (TV : Int → qx_T → Prop) (AR : Nat → List Int) (tl : vw_L), vl_tx SN TV AR l [] [] tl ∧ dv_sat ((vl_mf l []).length : Int) (dl_ra (vl_mf l [])) (dv_Q AR tl)
theorem vl_sat_iff {SN : Int → Int → Prop} {l : List vl_I} {TV : Int → qx_T → Prop} {AR : Nat → List Int} {tl : vw_L} (h : vl_tx SN TV AR l [] [] tl) : vl_sat SN l ↔ dv_sat ((vl_mf l []).length : Int) (dl_ra (vl_mf l [])) (dv_Q AR tl) := by
  constructor
  · rintro ⟨TV', AR', tl', h', th, g, sc, q⟩
    exact ⟨th, g, sc, vl_tx_Q (fun m => (g m).1) h' h q⟩
  · exact fun hs => ⟨TV, AR, tl, h, hs⟩
/-- what load leaves -/
def dl_LD (b : Nat → Int) (n : Int) (l : List vl_I) (s : sx_S) : Prop := True → (0 ≤ n ∧ n ≤ 240) ∧ vl_TX (px_K b n) l 0 ∧ px_ck (px_SN b n) l [] [] 0 ∧ (∃ bb, dz_E bb n (vl_kf l []) (vl_mf l []) s) ∧ dl_pr b n (vl_eq l [] []) s ∧ s.1 11 6 ≤ 960 ∧ s.1 18 10 = ((vl_eq l [] []).length : Int)
theorem c_dl_un {sL : Nat} {sx : Nat → Int32} (hsL : sL ≤ 3072) (d : Nat) (hd : 12 ≤ d) : ∀ (b : Nat → Int) (n : Int) (l : List vl_I) (s : sx_S) (K : Int → sx_S → Prop), cx_I s → dl_LD b n l s → (∀ t, ¬ vl_sat (px_SN b n) l → K 0 t) → (∀ t, vl_sat (px_SN b n) l → K 1 t) → sx_C sL sx d 70 [.inr (.inl 38), .inr (.inl 18)] s K := by
  intro b n l s K hI hL hK0 hK1
  obtain ⟨⟨n0, n240⟩, hX, hck, ⟨bb, hE⟩, hpr, h6, h10⟩ := hL trivial
  obtain ⟨tl, x1, x2, x3⟩ := dl_X hI n0 hX hck hE hpr h6 h10
  have lM := ((hE trivial).2.2.1 trivial).1
  have iff := vl_sat_iff x2
  rw [lM] at iff
  have m5 := (vl_mf_5 hck (by show 0 ≤ 5; decide) (by decide)).1
  refine c_dv_un hsL d hd (dl_ra (vl_mf l [])) (dl_AR s) tl s K hI x1 (fun S th hle hS hQ hB hnl => ?_) (fun t h => hK0 t (fun q => h (iff.mp q))) (fun t h => hK1 t (iff.mpr h))
  obtain ⟨_, _, _, _, x6⟩ := x1 trivial
  have idx : ∀ q ∈ tl, (∀ j ∈ rf_idx q.1, S.2.2.2.2 j = dl_AR s j) ∧ ∀ j ∈ rf_idx q.2, S.2.2.2.2 j = dl_AR s j := fun q hq => by
    obtain ⟨i, hi⟩ := List.mem_iff_getElem?.mp hq
    obtain ⟨_, ty, s1, s2⟩ := x6 i q.1 q.2 hi
    exact ⟨fun j hj => hle.2.2.2 j ((s1 trivial).1.1.2.1 j hj), fun j hj => hle.2.2.2 j ((s2 trivial).1.1.2.1 j hj)⟩
  refine vl_cap n0 n240 hX hck x2 idx (fun q hq => (x3 q hq).1) m5 (fun m q hm hne => ?_) hS hB hnl
  apply Classical.byContradiction
  intro hlt
  have p1 := qx_at_pos q.2
  have e0 : dl_ra (vl_mf l []) (m : Int) = 0 := by
    unfold dl_ra
    rw [Int.toNat_natCast, hm]
    have h2 := rf_at_sh q.2
    have h3 := rf_args_at (qx_sh q.2)
    show ((rf_args (qx_sh q.2)).length : Int) = 0
    omega
  have key : ∀ l' : vw_L, (∀ q ∈ l', vx_ok (dl_ra (vl_mf l [])) (dl_AR s) q.1 ∧ vx_ok (dl_ra (vl_mf l [])) (dl_AR s) q.2) → vw_cl (dl_AR s) false (m : Int) l' = 0 := fun l' => by
    induction l' with
    | nil => exact fun _ => rfl
    | cons p r ih =>
      intro h
      show vw_cn (dl_AR s) false (m : Int) p.1 [] + vw_cn (dl_AR s) false (m : Int) p.2 [] + vw_cl (dl_AR s) false (m : Int) r = 0
      rw [ih (fun q hq => h q (List.mem_cons_of_mem _ hq)), vw_cn_b0 e0 (h p List.mem_cons_self).1, vw_cn_b0 e0 (h p List.mem_cons_self).2]
  exact hne (key tl (fun q hq => (x3 q hq).2))
