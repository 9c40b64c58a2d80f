/-! ===== the reference after solving: its solution, for those that write ===== -/
/-- the constants' names in memory -/
theorem wr_nm {b : Nat → Int} {n : Int} {l : List vl_I} {s : sx_S} (hI : cx_I s) (hC : wr_C b n l s) : wb_Rn (wy_nm b n (vl_kf l [])) s := fun _ k k0 k1 => by
  obtain ⟨bb, mt, hb, hE⟩ := hC trivial
  obtain ⟨hTN, hDL, _⟩ := hE trivial
  obtain ⟨t1, t2, t3⟩ := hTN trivial
  obtain ⟨d1, d2⟩ := hDL trivial
  obtain ⟨e, e1, e2, e3, _⟩ := d2 k.toNat (by omega)
  have r3 := hI.fld 66 3 (by decide) rfl
  obtain ⟨_, s2, s3⟩ := t3 e.1.toNat (by omega)
  have hn : 0 ≤ n := by omega
  have p0 := px_ps_ge (b := bb) (n := n) e.1.toNat
  have p1 := px_ps_le (b := bb) hn e.1.toNat
  have p2 := px_en_le (b := bb) (n := n) p1
  have p3 := px_en_ge (b := bb) (n := n) (k := px_ps bb n e.1.toNat)
  refine ⟨?_, ?_⟩
  · unfold wb_nm wy_nm
    rw [e2, s2, s3, t1, e1]
    obtain ⟨g1, g2⟩ := px_nam_cg (b := bb) (c := b) hb hn e.1.toNat
    show (List.range (px_en b n (px_ps b n e.1.toNat) - px_ps b n e.1.toNat).toNat).map (fun j : Nat => b (px_ps b n e.1.toNat + (j : Int)).toNat) = _
    rw [← g1]
    refine List.map_congr_left (fun j hj => ?_)
    have := List.mem_range.mp hj
    exact (g2 (j : Int) (by omega) (by omega)).symm
  · rw [e2, s2, s3]
    exact ⟨⟨by omega, by omega⟩, p0, by omega⟩
/-- a most general solution of the text -/
theorem wr_Z_mk {b : Nat → Int} {n : Int} {l : List vl_I} {TV : Int → qx_T → Prop} {AR' AR : Nat → List Int} {tl : vw_L} {u t : sx_S} {g : rf_Gh} {th : Int → rf_N} {nb ib : Int} (hI : cx_I u) (hIt : cx_I t) (hM : rf_MI nb ib u g) (hG : vr_G u g AR) (hS : vx_So (vr_S u g AR) th) (ho : ∀ v, (vr_S u g AR).2.2.2.1 v = none → th v = vx_gn (vr_ar u) v) (hC : wr_C b n l u) (h9 : 2 ≤ u.1 66 9) (hU : rf_UK u) (htx : vl_tx (px_SN b n) TV AR' l [] [] tl) (hV : wy_V b n l TV) (hMG : wz_MG (vr_S u g AR) ((vk_mf l []).length : Int) (vs_Q AR' tl (tl.length : Int)) th) (hMa : ∀ m, 0 ≤ m → m < ((vk_mf l []).length : Int) → (vr_S u g AR).2.2.1 m = vs_ra (vk_mf l []) m) (hN : we_N t (wz_al th (vk_mf l []).length)) (e61 : t.1 66 61 = u.1 66 61) : wy_Z b n l TV AR' tl (vr_S u g AR) th (wy_ht u) (wy_nm b n (vl_kf l [])) := fun _ => by
  obtain ⟨bb, mt, _, hE⟩ := hC trivial
  obtain ⟨_, hC1, hD1⟩ := hE trivial
  rw [vk_mf_vl] at hMG hMa hN
  have lM := (hD1 trivial).1
  have wtr := wr_roots hI hM hG hS ho hC1 hD1 h9 hU
  refine ⟨⟨htx, wz_MG_cg (fun th' _ => ⟨fun q p hp => ?_, fun q i i0 i1 p hp => q p (List.mem_of_getElem? hp)⟩) hMG, hMa⟩, wr_rows hIt hN (fun p hp => ?_) (fun p hp => ?_), fun _ _ _ => rfl, hV, wtr⟩
  · obtain ⟨i, hi⟩ := List.mem_iff_getElem?.mp hp
    have hl : i < tl.length := (List.getElem?_eq_some_iff.mp hi).1
    exact q (i : Int) (by omega) (by omega) p (by rw [Int.toNat_natCast]; exact hi)
  · have hm : p.1 ∈ (wz_al th (vl_mf l []).length).map Prod.fst := List.mem_map_of_mem hp
    obtain ⟨v, ⟨v0, v1⟩, hv⟩ := wz_al_mem.mp hm
    have v2 : v < (vr_S u g AR).1 := by
      show v < u.1 66 61
      have := hU.1
      omega
    have ok := (wz_sol (vr_rk hI hM hG) (vr_W hI hG) (vr_B1 hI hG) hS ho (wy_nn hM) hS v v0 v2).1
    obtain ⟨m, m1, m2, m3⟩ := wz_ok_oc ok hv
    have m3' : m < u.1 66 61 := m3
    exact ⟨m, m1, m2, by omega⟩
  · refine wz_al_P (P := fun xs => ∀ y ∈ xs, 0 ≤ y) (th := th) (fun k hk => ?_) p hp
    have w := wtr k _ (List.getElem?_eq_getElem hk)
    have w' := (wt_hr).1 w
    rw [we_on_1 (vq_lm_on (hS.1 _).1 _)] at w'
    exact wz_hr_lm w'
/-- a side in memory, and its value -/
def wr_s1 (SN : Int → Int → Prop) (C M : List (Int × qx_T)) (n : px_N) (th : Int → rf_N) (AR : Nat → List Int) (t : sx_S) (z : Int) : Prop := ∃ N, (rf_no t N z ∧ vr_1 N = N) ∧ ∀ (TV : Int → qx_T → Prop) (AR' : Nat → List Int) (W : rf_N) (x : qx_T) (e e' : Int → Int) (L : Int), (vl_tm SN C M TV AR' n).1 W [] [] x → vx_val th AR N e L = vx_val th AR' W e' L
theorem wr_s1_up {SN : Int → Int → Prop} {C M : List (Int × qx_T)} {n : px_N} {th : Int → rf_N} {AR : Nat → List Int} {s t : sx_S} {z : Int} (ha : rf_ag 100 103 (s.1 66 50) s t) (h50 : s.1 66 50 ≤ t.1 66 50) (h : wr_s1 SN C M n th AR s z) : wr_s1 SN C M n th AR t z := by
  obtain ⟨N, ⟨h1, h2⟩, h3⟩ := h
  exact ⟨N, ⟨rf_no_up ha h50 h1, h2⟩, h3⟩
theorem wr_s1_mk {SN : Int → Int → Prop} {C M : List (Int × qx_T)} {n : px_N} {th : Int → rf_N} {AR : Nat → List Int} {s t : sx_S} {z : Int} (hZ : rf_Z s t) (hon : ∀ m, vx_on (th m)) (hR : ∀ i m ws, vk_RX s i m ws → AR i = ws) (d : vk_sd SN C M n s z) : wr_s1 SN C M n th AR t z := by
  obtain ⟨N, ⟨h1, h2⟩, h3⟩ := d
  exact ⟨N, ⟨rf_no_up (fun p j q1 q2 q3 => hZ.2.1.1 p j q1 (by omega) q3) hZ.2.2.1 h1, h2⟩, fun TV AR' W x e e' L hW => h3 th AR hon hR TV AR' W x e e' L hW⟩
def wr_sd (b : Nat → Int) (n : Int) (l : List vl_I) (th : Int → rf_N) (AR : Nat → List Int) (t : sx_S) : Prop := t.1 66 47 = ((vl_eq l [] []).length : Int) ∧ ∀ (k : Nat) p, (vl_eq l [] [])[k]? = some p → wr_s1 (px_SN b n) p.1.1 p.1.2 p.2.1 th AR t (t.2.1 98 k) ∧ wr_s1 (px_SN b n) p.1.1 p.1.2 p.2.2 th AR t (t.2.1 99 k)
theorem wr_sd_up {b : Nat → Int} {n : Int} {l : List vl_I} {th : Int → rf_N} {AR : Nat → List Int} {s t : sx_S} (ha : rf_ag 100 103 (s.1 66 50) s t) (h50 : s.1 66 50 ≤ t.1 66 50) (h47 : t.1 66 47 = s.1 66 47) (h98 : t.2.1 98 = s.2.1 98) (h99 : t.2.1 99 = s.2.1 99) (h : wr_sd b n l th AR s) : wr_sd b n l th AR t := by
  refine ⟨h47.trans h.1, fun k p hp => ?_⟩
  rw [h98, h99]
  exact ⟨wr_s1_up ha h50 (h.2 k p hp).1, wr_s1_up ha h50 (h.2 k p hp).2⟩
/-- what the reference holds after solving -/
def wr_Y {Ω : Type} (E0 : we_E Ω) (b : Nat → Int) (n : Int) (l : List vl_I) (TV : Int → qx_T → Prop) (AR' : Nat → List Int) (tl : vw_L) (t : sx_S) : Prop := True → ∃ (g : rf_Gh) (ht : Int → List rf_T) (th : Int → rf_N) (AR : Nat → List Int) (rk : Int → Nat) (S : vx_S), we_S (E0.1, E0.2.1, ht, th, AR, rk) t g ∧ wy_Z b n l TV AR' tl S th ht (wy_nm b n (vl_kf l [])) ∧ t.1 66 45 = ((vl_mf l []).length : Int) ∧ (∀ m, 0 ≤ m → m < ((vl_mf l []).length : Int) → rf_aa t m = vs_ra (vl_mf l []) m) ∧ wr_sd b n l th AR t
