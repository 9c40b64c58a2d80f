/-! ===== the desk's unifies: the text has a solution, or not ===== -/
theorem vl_tx_Q {SN : Int → Int → Prop} {TV TV' : Int → qx_T → Prop} {AR AR' : Nat → List Int} {th : Int → rf_N} (hg : ∀ m, vx_on (th m)) : ∀ {l : List vl_I} {C M : List (Int × qx_T)} {tl tl' : vw_L}, vl_tx SN TV AR l C M tl → vl_tx SN TV' AR' l C M tl' → dv_Q AR tl th → dv_Q AR' tl' th
  | [], C, M, tl, tl', h, h', _ => by
    have e : tl' = [] := h'
    subst e
    exact fun q hq => absurd hq List.not_mem_nil
  | p :: l, C, M, tl, tl', h, h', hQ => by
    rcases h with ⟨k, h⟩ | ⟨k, h⟩ | ⟨k, L, R, l1, x, e, a1, a2, h⟩ <;> rcases h' with ⟨k', h'⟩ | ⟨k', h'⟩ | ⟨k', L', R', l1', x', e', a1', a2', h'⟩
    · exact vl_tx_Q hg h h' hQ
    · omega
    · omega
    · omega
    · exact vl_tx_Q hg h h' hQ
    · omega
    · omega
    · omega
    · subst e e'
      intro q hq
      rcases List.mem_cons.mp hq with rfl | hq
      · have b1 := ((vl_tm_eq (th := th) hg (fun h1 h2 => px_pv_fun.2 h1 h2)).1 (Γ := []) (ρ := []) (ρ' := []) rfl a1 a1').2 (dv_lk []) (dv_lk []) 0 ⟨rfl, fun _ h => absurd h (Nat.not_lt_zero _)⟩
        have b2 := ((vl_tm_eq (th := th) hg (fun h1 h2 => px_pv_fun.2 h1 h2)).1 (Γ := []) (ρ := []) (ρ' := []) rfl a2 a2').2 (dv_lk []) (dv_lk []) 0 ⟨rfl, fun _ h => absurd h (Nat.not_lt_zero _)⟩
        have c := hQ (L, R) List.mem_cons_self
        show vx_val th AR' L' (dv_lk []) 0 = vx_val th AR' R' (dv_lk []) 0
        rw [← b1, ← b2]
        exact c
      · exact vl_tx_Q hg h h' (fun p hp => hQ p (List.mem_cons_of_mem _ hp)) q hq
/-- the text's equations have a solution -/
def vl_sat (SN : Int → Int → Prop) (l : List vl_I) : Prop := ∃ (TV : Int → qx_T → Prop) (AR : Nat → List Int) (tl : vw_L), vl_tx SN TV AR l [] [] tl ∧ dv_sat ((vl_mf l []).length : Int) (dl_ra (vl_mf l [])) (dv_Q AR tl)
theorem vl_sat_iff {SN : Int → Int → Prop} {l : List vl_I} {TV : Int → qx_T → Prop} {AR : Nat → List Int} {tl : vw_L} (h : vl_tx SN TV AR l [] [] tl) : vl_sat SN l ↔ dv_sat ((vl_mf l []).length : Int) (dl_ra (vl_mf l [])) (dv_Q AR tl) := by
  constructor
  · rintro ⟨TV', AR', tl', h', th, g, sc, q⟩
    exact ⟨th, g, sc, vl_tx_Q (fun m => (g m).1) h' h q⟩
  · exact fun hs => ⟨TV, AR, tl, h, hs⟩
/-- what load leaves -/
def dl_LD (b : Nat → Int) (n : Int) (l : List vl_I) (s : sx_S) : Prop := True → (0 ≤ n ∧ n ≤ 240) ∧ vl_TX (px_K b n) l 0 ∧ px_ck (px_SN b n) l [] [] 0 ∧ (∃ bb, dz_E bb n (vl_kf l []) (vl_mf l []) s) ∧ dl_pr b n (vl_eq l [] []) s ∧ s.1 11 6 ≤ 960 ∧ s.1 18 10 = ((vl_eq l [] []).length : Int)
