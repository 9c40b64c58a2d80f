/-! ===== the desk writes an open unknown: its number and its order are those of the numbering ===== -/
theorem wd_N_at {s : sx_S} {S : vx_S} {a : List (Int × List Int)} {m : Int} (h : wd_N s S a) (m0 : 0 ≤ m) (m1 : m < S.1) (hb : S.2.2.2.1 m = none) (r4 : 0 ≤ S.2.2.1 m ∧ S.2.2.1 m ≤ 4) (hm : -1 - m ∈ a.map Prod.fst) : s.2.1 63 m.toNat = vx_ii (a.map Prod.fst) (-1 - m) ∧ vx_ii (a.map Prod.fst) (-1 - m) < (a.length : Int) ∧ ∀ p : Nat, (p : Int) < S.2.2.1 m → s.2.1 64 (m * 4 + (p : Int)).toNat = ((we_od (we_rw a (-1 - m)) p : Nat) : Int) ∧ ((we_od (we_rw a (-1 - m)) p : Nat) : Int) < S.2.2.1 m := by
  obtain ⟨_, hn, _, h3⟩ := h trivial
  rcases (h3 m m0 m1).1 hb with ⟨_, c⟩ | ⟨i, xs, c1, c2, c3, c4, c5⟩
  · exact absurd hm c
  · have hi : i < a.length := (List.getElem?_eq_some_iff.mp c1).1
    refine ⟨by rw [we_ii_at hn c1]; exact c2, by rw [we_ii_at hn c1]; omega, fun p hp => ?_⟩
    rw [we_rw_at hn c1]
    obtain ⟨k, k1, k2⟩ := rf_rnk_sur (D := fun i => xs.getD i (-1)) (n := xs.length) (by omega) c4 (r := p) (by omega)
    have := c5 k k1
    rw [k2] at this
    rw [this, ← k2, we_od_at c4 k1]
    exact ⟨rfl, by omega⟩
theorem wk_gm {f : Int → Int} {l : List Int} {k : Nat} (hk : k < l.length) : (l.map f).getD k (-1) = f (l.getD k (-1)) := by
  rw [List.getD_eq_getElem?_getD, List.getD_eq_getElem?_getD, List.getElem?_map, List.getElem?_eq_getElem hk]
  rfl
theorem wk_U_of {s : sx_S} {S : vx_S} {a : List (Int × List Int)} {m : Int} {F : rf_N} {c : List (Int × Int)} {ht : Int → List rf_T} (hN : wd_N s S a) (m0 : 0 ≤ m) (m1 : m < S.1) (hb : S.2.2.2.1 m = none) (hl : (rf_len F : Int) = S.2.2.1 m) (h4 : rf_len F ≤ 4) (hm : -1 - m ∈ a.map Prod.fst) (hv : ∀ k : Nat, k < rf_len F → (0 ≤ dv_lk c ((dz_hs F).getD k (-1)) ∧ dv_lk c ((dz_hs F).getD k (-1)) ≤ 99990000) ∧ (0 ≤ (dz_hs F).getD k (-1) ∧ (dz_hs F).getD k (-1) < s.1 11 8) ∧ wk_ty s ((ht (-1 - m)).getD k .leaf) (s.2.1 17 ((dz_hs F).getD k (-1)).toNat) ∧ rf_at ((ht (-1 - m)).getD k .leaf) ≤ 5) : wz_ad a (-1 - m) ((dz_hs F).map (dv_lk c)) = a ∧ wk_U s F c m (vx_ii (a.map Prod.fst) (-1 - m)).toNat ((List.range ((dz_hs F).map (dv_lk c)).length).map (fun p => (ht (-1 - m)).getD (we_od (we_rw a (-1 - m)) p) .leaf)) ((List.range ((dz_hs F).map (dv_lk c)).length).map (fun p => ((dz_hs F).map (dv_lk c)).getD (we_od (we_rw a (-1 - m)) p) (-1))) := by
  obtain ⟨n1, n2, n3⟩ := wd_N_at hN m0 m1 hb (by omega) hm
  have i0 := vx_ii_0 (a.map Prod.fst) (-1 - m)
  have e0 : ((dz_hs F).map (dv_lk c)).length = rf_len F := by rw [List.length_map, dz_hs_len]
  refine ⟨by unfold wz_ad; rw [if_pos hm], fun _ => ⟨by rw [n1]; omega, ⟨by rw [List.length_map, List.length_range, e0], by rw [List.length_map, List.length_range, e0]⟩, fun p hp => ?_⟩⟩
  obtain ⟨o1, o2⟩ := n3 p (by omega)
  have ok : we_od (we_rw a (-1 - m)) p < rf_len F := by omega
  obtain ⟨v1, v2, v3, v4⟩ := hv _ ok
  refine ⟨we_od (we_rw a (-1 - m)) p, _, _, o1, ok, ?_, ?_, rfl, v1, v2, v3, v4⟩
  · rw [List.getElem?_map, e0, List.getElem?_range hp]
    rfl
  · rw [List.getElem?_map, e0, List.getElem?_range hp]
    show some (((dz_hs F).map (dv_lk c)).getD (we_od (we_rw a (-1 - m)) p) (-1)) = _
    rw [wk_gm (by rw [dz_hs_len]; exact ok)]
/-- what is put of an open unknown is what its value writes -/
theorem wk_U_w {nm : Int → List Int} {S : vx_S} {a : List (Int × List Int)} {m L : Int} {F : rf_N} {c : List (Int × Int)} {ht : Int → List rf_T} {th : Int → rf_N} {j : Nat} {o : List Int} (hS : vx_So S th) (ho : th m = vx_gn S.2.2.1 m) (hA : S.2.2.2.2 j = dz_hs F) (hl : (rf_len F : Int) = S.2.2.1 m) (m0 : 0 ≤ m) (ha : wz_ad a (-1 - m) ((dz_hs F).map (dv_lk c)) = a) : (we_w wk_pb wb_dg nm (we_hf wk_pb wb_dg nm ht) (wd_v th S.2.2.2.2 (rf_n j 3 m F .leaf, dv_lk c, L))).1 L (a, o) = (a, o ++ (104 :: (wb_dg (((vx_ii (a.map Prod.fst) (-1 - m)).toNat : Nat) : Int) ++ wk_rl ((List.range ((dz_hs F).map (dv_lk c)).length).map (fun p => (ht (-1 - m)).getD (we_od (we_rw a (-1 - m)) p) .leaf)) ((List.range ((dz_hs F).map (dv_lk c)).length).map (fun p => ((dz_hs F).map (dv_lk c)).getD (we_od (we_rw a (-1 - m)) p) (-1))) L))) := by
  obtain ⟨Fv, e1, e2⟩ := wd_open (L := L) (F := F) (e := dv_lk c) (j := j) hS ho (by rw [hA, dz_hs_len]; exact hl)
  have i0 := vx_ii_0 (a.map Prod.fst) (-1 - m)
  rw [e1, we_hol _ _ _ _ (by omega), e2, hA, wk_hf]
  show (wz_ad a (-1 - m) _, _) = _
  rw [ha, Int.toNat_of_nonneg i0]
  rfl
