section
/-! ===== the reference after solving: its solution, for those that write ===== -/
/-- the constants' names in memory -/
theorem wr_nm {b : Nat → Int} {n : Int} {l : List vl_I} {s : sx_S} (hI : cx_I s) (hC : wr_C b n l s) : wb_Rn (wy_nm b n (vl_kf l [])) s := fun _ k k0 k1 => by
  obtain ⟨bb, mt, hb, hE⟩ := hC trivial
  obtain ⟨hTN, hDL, _⟩ := hE trivial
  obtain ⟨t1, t2, t3⟩ := hTN trivial
  obtain ⟨d1, d2⟩ := hDL trivial
  obtain ⟨e, e1, e2, e3, _⟩ := d2 k.toNat (by omega)
  have r3 := hI.fld 66 3 (by decide) rfl
  obtain ⟨_, s2, s3⟩ := t3 e.1.toNat (by omega)
  have hn : 0 ≤ n := by omega
  have p0 := px_ps_ge (b := bb) (n := n) e.1.toNat
  have p1 := px_ps_le (b := bb) hn e.1.toNat
  have p2 := px_en_le (b := bb) (n := n) p1
  have p3 := px_en_ge (b := bb) (n := n) (k := px_ps bb n e.1.toNat)
  refine ⟨?_, ?_⟩
  · unfold wb_nm wy_nm
    rw [e2, s2, s3, t1, e1]
    obtain ⟨g1, g2⟩ := px_nam_cg (b := bb) (c := b) hb hn e.1.toNat
    show (List.range (px_en b n (px_ps b n e.1.toNat) - px_ps b n e.1.toNat).toNat).map (fun j : Nat => b (px_ps b n e.1.toNat + (j : Int)).toNat) = _
    rw [← g1]
    refine List.map_congr_left (fun j hj => ?_)
    have := List.mem_range.mp hj
    exact (g2 (j : Int) (by omega) (by omega)).symm
  · rw [e2, s2, s3]
    exact ⟨⟨by omega, by omega⟩, p0, by omega⟩
/-- a most general solution of the text -/
theorem wr_Z_mk {b : Nat → Int} {n : Int} {l : List vl_I} {TV : Int → qx_T → Prop} {AR' AR : Nat → List Int} {tl : vw_L} {u t : sx_S} {g : rf_Gh} {th : Int → rf_N} {nb ib : Int} (hI : cx_I u) (hIt : cx_I t) (hM : rf_MI nb ib u g) (hG : vr_G u g AR) (hS : vx_So (vr_S u g AR) th) (ho : ∀ v, (vr_S u g AR).2.2.2.1 v = none → th v = vx_gn (vr_ar u) v) (hC : wr_C b n l u) (h9 : 2 ≤ u.1 66 9) (hU : rf_UK u) (htx : vl_tx (px_SN b n) TV AR' l [] [] tl) (hV : wy_V b n l TV) (hMG : wz_MG (vr_S u g AR) ((vk_mf l []).length : Int) (vs_Q AR' tl (tl.length : Int)) th) (hMa : ∀ m, 0 ≤ m → m < ((vk_mf l []).length : Int) → (vr_S u g AR).2.2.1 m = vs_ra (vk_mf l []) m) (hN : we_N t (wz_al th (vk_mf l []).length)) (e61 : t.1 66 61 = u.1 66 61) : wy_Z b n l TV AR' tl (vr_S u g AR) th (wy_ht u) (wy_nm b n (vl_kf l [])) := fun _ => by
  obtain ⟨bb, mt, _, hE⟩ := hC trivial
  obtain ⟨_, hC1, hD1⟩ := hE trivial
  rw [vk_mf_vl] at hMG hMa hN
  have lM := (hD1 trivial).1
  have wtr := wr_roots hI hM hG hS ho hC1 hD1 h9 hU
  refine ⟨⟨htx, wz_MG_cg (fun th' _ => ⟨fun q p hp => ?_, fun q i i0 i1 p hp => q p (List.mem_of_getElem? hp)⟩) hMG, hMa⟩, wr_rows hIt hN (fun p hp => ?_) (fun p hp => ?_), fun _ _ _ => rfl, hV, wtr⟩
  · obtain ⟨i, hi⟩ := List.mem_iff_getElem?.mp hp
    have hl : i < tl.length := (List.getElem?_eq_some_iff.mp hi).1
    exact q (i : Int) (by omega) (by omega) p (by rw [Int.toNat_natCast]; exact hi)
  · have hm : p.1 ∈ (wz_al th (vl_mf l []).length).map Prod.fst := List.mem_map_of_mem hp
    obtain ⟨v, ⟨v0, v1⟩, hv⟩ := wz_al_mem.mp hm
    have v2 : v < (vr_S u g AR).1 := by
      show v < u.1 66 61
      have := hU.1
      omega
    have ok := (wz_sol (vr_rk hI hM hG) (vr_W hI hG) (vr_B1 hI hG) hS ho (wy_nn hM) hS v v0 v2).1
    obtain ⟨m, m1, m2, m3⟩ := wz_ok_oc ok hv
    have m3' : m < u.1 66 61 := m3
    exact ⟨m, m1, m2, by omega⟩
  · refine wz_al_P (P := fun xs => ∀ y ∈ xs, 0 ≤ y) (th := th) (fun k hk => ?_) p hp
    have w := wtr k _ (List.getElem?_eq_getElem hk)
    have w' := (wt_hr).1 w
    rw [we_on_1 (vq_lm_on (hS.1 _).1 _)] at w'
    exact wz_hr_lm w'
/-- a side in memory, and its value -/
def wr_s1 (SN : Int → Int → Prop) (C M : List (Int × qx_T)) (n : px_N) (th : Int → rf_N) (AR : Nat → List Int) (t : sx_S) (z : Int) : Prop := ∃ N, (rf_no t N z ∧ vr_1 N = N) ∧ ∀ (TV : Int → qx_T → Prop) (AR' : Nat → List Int) (W : rf_N) (x : qx_T) (e e' : Int → Int) (L : Int), (vl_tm SN C M TV AR' n).1 W [] [] x → vx_val th AR N e L = vx_val th AR' W e' L
theorem wr_s1_up {SN : Int → Int → Prop} {C M : List (Int × qx_T)} {n : px_N} {th : Int → rf_N} {AR : Nat → List Int} {s t : sx_S} {z : Int} (ha : rf_ag 100 103 (s.1 66 50) s t) (h50 : s.1 66 50 ≤ t.1 66 50) (h : wr_s1 SN C M n th AR s z) : wr_s1 SN C M n th AR t z := by
  obtain ⟨N, ⟨h1, h2⟩, h3⟩ := h
  exact ⟨N, ⟨rf_no_up ha h50 h1, h2⟩, h3⟩
theorem wr_s1_mk {SN : Int → Int → Prop} {C M : List (Int × qx_T)} {n : px_N} {th : Int → rf_N} {AR : Nat → List Int} {s t : sx_S} {z : Int} (hZ : rf_Z s t) (hon : ∀ m, vx_on (th m)) (hR : ∀ i m ws, vk_RX s i m ws → AR i = ws) (d : vk_sd SN C M n s z) : wr_s1 SN C M n th AR t z := by
  obtain ⟨N, ⟨h1, h2⟩, h3⟩ := d
  exact ⟨N, ⟨rf_no_up (fun p j q1 q2 q3 => hZ.2.1.1 p j q1 (by omega) q3) hZ.2.2.1 h1, h2⟩, fun TV AR' W x e e' L hW => h3 th AR hon hR TV AR' W x e e' L hW⟩
def wr_sd (b : Nat → Int) (n : Int) (l : List vl_I) (th : Int → rf_N) (AR : Nat → List Int) (t : sx_S) : Prop := t.1 66 47 = ((vl_eq l [] []).length : Int) ∧ ∀ (k : Nat) p, (vl_eq l [] [])[k]? = some p → wr_s1 (px_SN b n) p.1.1 p.1.2 p.2.1 th AR t (t.2.1 98 k) ∧ wr_s1 (px_SN b n) p.1.1 p.1.2 p.2.2 th AR t (t.2.1 99 k)
theorem wr_sd_up {b : Nat → Int} {n : Int} {l : List vl_I} {th : Int → rf_N} {AR : Nat → List Int} {s t : sx_S} (ha : rf_ag 100 103 (s.1 66 50) s t) (h50 : s.1 66 50 ≤ t.1 66 50) (h47 : t.1 66 47 = s.1 66 47) (h98 : t.2.1 98 = s.2.1 98) (h99 : t.2.1 99 = s.2.1 99) (h : wr_sd b n l th AR s) : wr_sd b n l th AR t := by
  refine ⟨h47.trans h.1, fun k p hp => ?_⟩
  rw [h98, h99]
  exact ⟨wr_s1_up ha h50 (h.2 k p hp).1, wr_s1_up ha h50 (h.2 k p hp).2⟩
/-- what the reference holds after solving -/
def wr_Y {Ω : Type} (E0 : we_E Ω) (b : Nat → Int) (n : Int) (l : List vl_I) (TV : Int → qx_T → Prop) (AR' : Nat → List Int) (tl : vw_L) (t : sx_S) : Prop := True → ∃ (g : rf_Gh) (ht : Int → List rf_T) (th : Int → rf_N) (AR : Nat → List Int) (rk : Int → Nat) (S : vx_S), we_S (E0.1, E0.2.1, ht, th, AR, rk) t g ∧ wy_Z b n l TV AR' tl S th ht (wy_nm b n (vl_kf l [])) ∧ t.1 66 45 = ((vl_mf l []).length : Int) ∧ (∀ m, 0 ≤ m → m < ((vl_mf l []).length : Int) → rf_aa t m = vs_ra (vl_mf l []) m) ∧ wr_sd b n l th AR t
end
section
theorem c_x_solve {Ω : Type} {E0 : we_E Ω} (hL0 : we_L E0) {sL : Nat} {sx : Nat → Int32} (hKE : we_K E0 sL sx) (hfull : ∀ p : Nat → Int, ∃ o, we_sa E0 o ∧ E0.2.1.1 4001 p o) (hsL : sL ≤ 3072) (d : Nat) (hd : 1700 ≤ d) (b : Nat → Int) (n : Int) (l : List ((Int × Int × qx_T) × (px_N × px_N))) (TV : Int → qx_T → Prop) (AR' : Nat → List Int) (tl : List (rf_N × rf_N)) : ∀ (s : sx_S) (K : Int → sx_S → Prop), cx_I s → (s.1 66 37 ≠ 0 → rf_LD s ∧ ∀ u : sx_S, (∀ p, 68 ≤ p → p ≤ 99 → u.2.1 p = s.2.1 p) → u.1 66 3 = s.1 66 3 → u.1 66 42 = s.1 66 42 → we_Rn E0 u) → (s.1 66 37 ≠ 0 → vk_LD b n l (rf_l0 s) ∧ vs_tl (px_SN b n) TV AR' (vk_eq l [] []) tl) → (s.1 66 37 ≠ 0 → wr_C b n l s ∧ vl_tx (px_SN b n) TV AR' l [] [] tl ∧ wy_V b n l TV) → (∀ z t, ((s.1 66 37 = 0 ∧ z = -1 ∧ t = s) ∨ (s.1 66 37 ≠ 0 ∧ (rf_SO s t ∧ vk_LD b n l (rf_l0 t)) ∧ ((z = 0 ∧ vs_sat AR' tl (vk_mf l []) ∧ wr_Y E0 b n l TV AR' tl t ∧ t.1 66 78 = 1) ∨ (z = 1 ∧ t.1 66 78 = 0 ∧ ¬ vs_sat AR' tl (vk_mf l []))))) → K z t) → sx_C sL sx d 201 [.inr (.inl 66)] s K := by
  intro s K hI hLs hVs hWs hK
  obtain ⟨d, rfl⟩ : ∃ e, d = e + 2 := ⟨d - 2, by omega⟩
  have r45 := hI.fld 66 45 (by decide) rfl
  have r47 := hI.fld 66 47 (by decide) rfl
  obtain ⟨⟨z1, z2, z3⟩, ⟨z71, z61, z64, z70, z78⟩, z4⟩ := rf_z8_f (s := s)
  have z45 := z4 45 (by decide) (by decide) (by decide) (by decide) (by decide) (by decide) (by decide) (by decide)
  have z47 := z4 47 (by decide) (by decide) (by decide) (by decide) (by decide) (by decide) (by decide) (by decide)
  have z9 := z4 9 (by decide) (by decide) (by decide) (by decide) (by decide) (by decide) (by decide) (by decide)
  refine sx_methL (wr := true) (n := 400) (n' := 400) (stop := [(60, [0, 1]), (80, [0, 1, 2, 3]), (114, [0, 1]), (151, [0])]) (fun ms pc ls u => s.1 66 37 ≠ 0 ∧ ((pc = 60 ∧ ∃ k : Int, ls = [(0, .inr (.inl 66)), (1, .inl k)] ∧ (0 ≤ k ∧ k ≤ s.1 66 45) ∧ rf_I1 (rf_z8 s) u k ∧ (ms : Int) = 100 - 10 * k) ∨ (pc = 80 ∧ ∃ k x3 : Int, ls = [(0, .inr (.inl 66)), (1, .inl k), (2, .inl k), (3, .inl x3)] ∧ (0 ≤ k ∧ k < s.1 66 45) ∧ (0 ≤ x3 ∧ x3 ≤ 5999) ∧ rf_I2 (rf_z8 s) u k x3 ∧ (ms : Int) = 99 - 10 * k - u.2.1 108 k.toNat) ∨ (pc = 114 ∧ ∃ k : Int, ls = [(0, .inr (.inl 66)), (1, .inl k)] ∧ (0 ≤ k ∧ k ≤ s.1 66 47) ∧ vs_I3 AR' tl (vk_mf l []) (rf_z8 s) u k ∧ (ms : Int) = 40 - k) ∨ (pc = 151 ∧ ls = [(0, .inr (.inl 66))] ∧ vs_I3 AR' tl (vk_mf l []) (rf_z8 s) u (s.1 66 47) ∧ ms = 1))) hsL (e := eX12_solve) rfl ?_ ?_
  · refine w_solve hI (fun h37 => hK (-1) s (Or.inl ⟨h37, rfl, rfl⟩)) (fun h37 a b c ha hb hc => ⟨100, h37, Or.inl ⟨rfl, 0, rfl, by omega, ?_, by omega⟩⟩)
    subst ha hb hc
    show rf_I1 (rf_z8 s) (rf_z8 s) 0
    exact ⟨⟨rf_z8_I hI, cx_F_refl _ _, rf_f_refl _ _⟩, z61, by omega, fun r r0 r1 => absurd r1 (by omega)⟩
  · rintro ms pc ls u ⟨h37, h⟩
    obtain ⟨hLD, hRn⟩ := hLs h37
    obtain ⟨hWC, hWx, hWV⟩ := hWs h37
    obtain ⟨hVL, htl0, htl⟩ := hVs h37
    obtain ⟨_, ⟨mt, hDL⟩, hE47, hSD⟩ := hVL trivial
    have xz := rf_z8_xu (s := s)
    obtain ⟨_, _, _, l4z, _⟩ := rf_l0_f (s := s)
    have l45 := l4z 45 (by decide) (by decide) (by decide)
    have l47 := l4z 47 (by decide) (by decide) (by decide)
    have hDz : px_DL 97 123 45 mt (rf_z8 s) (vk_mf l []) := px_DL_up hDL (by omega) xz.1 rfl rfl
    have lM := (hDz trivial).1
    have hUz : vk_U (rf_l0 s) (rf_z8 s) := vk_U_Q (fun _ _ _ _ _ => rfl) xz
    have eL : (tl.length : Int) = s.1 66 47 := by
      rw [htl0]
      omega
    have hL0 := hLD
    obtain ⟨⟨hE, hC⟩, h75, h76, h77, h9, _, h34⟩ := hL0
    have hES := rf_z8_ES hE
    rcases h with ⟨rfl, k, rfl, hk, hJ, hms⟩ | ⟨rfl, k, x3, rfl, hk, h3, hJ, hms⟩ | ⟨rfl, k, rfl, hk, hJ, hms⟩ | ⟨rfl, rfl, hJ, rfl⟩
    · -- 60
      have hJ0 := hJ
      obtain ⟨⟨a1, a2, a3⟩, a4, a5, a6⟩ := hJ0
      have e45 := a3 45 rfl
      have e123 : u.2.1 123 = (rf_z8 s).2.1 123 := (a2.same 123 rfl).2
      refine w_solve_60 (PN := fun z t => cx_I t ∧ t.2.1 123 = (rf_z8 s).2.1 123 ∧ z = k ∧ rf_I2 (rf_z8 s) t k ((rf_z8 s).2.1 123 k.toNat) ∧ t.2.1 108 k.toNat = 0) a1 (by omega) (fun hge => ⟨40, by omega, h37, Or.inr (Or.inr (Or.inl ⟨rfl, 0, rfl, by omega, ?_, by omega⟩))⟩) (fun hlt K' hK' => c_r_newMeta hsL (d + 1) (by omega) u K' a1 (by omega) (fun z t c1 c2 c3 c4 c5 c6 c7 c8 c9 => ?_)) (fun z t h => h.1) (fun hlt z t h x hx => ⟨ms - 1, by omega, h37, Or.inr (Or.inl ⟨rfl, k, x, ?_, by omega, ?_, ?_, ?_⟩)⟩)
      · refine vs_I1_I3 hDz (by omega) (by omega) z71 z70 z78 (by omega) ?_
        rw [show (rf_z8 s).1 66 45 = k by omega]
        exact hJ
      · have ht5 : rf_t5 (rf_z8 s) ((rf_z8 s).2.1 123 k.toNat) := by
          obtain ⟨_, _, _, l4, _⟩ := rf_l0_f (s := s)
          have m9 := l4 9 (by decide) (by decide) (by decide)
          have m45 := l4 45 (by decide) (by decide) (by decide)
          exact rf_t5_9 (s := rf_l0 s) (by omega) rfl rfl ((hC k.toNat).2.1 (by omega))
        obtain ⟨q1, q2⟩ := rf_I2_0 hk.1 hJ ht5 c1 c2 c3 c4 c5 c6 c7 c8 c9
        refine hK' z t ⟨c1, (c2.same 123 rfl).2.trans e123, q1, q2, ?_⟩
        rw [← q1]
        exact c7
      · rw [h.2.2.1]
      · have := h.1.arr 123 (by decide) rfl k.toNat
        omega
      · rw [hx, h.2.1]
        exact h.2.2.2.1
      · rw [h.2.2.2.2]
        omega
    · -- 80
      have hJ0 := hJ
      obtain ⟨⟨a1, a2, a3⟩, a4, a5, a6, a7, x, y, D, ⟨b1, b2, b3⟩, b4, b5, b6⟩ := hJ0
      have r108 := a1.arr 108 (by decide) rfl k.toNat
      have r72 := a1.arr 72 (by decide) rfl x3.toNat
      refine w_solve_80 (PA := fun t => cx_I t ∧ rf_I2 (rf_z8 s) t k (t.2.1 73 x3.toNat) ∧ t.2.1 108 k.toNat = u.2.1 108 k.toNat + 1) a1 (by omega) h3 (fun h1 q hq => ⟨(100 - 10 * q).toNat, by omega, h37, Or.inl ⟨rfl, q, rfl, by omega, ?_, by omega⟩⟩) (fun h1 a ha K' hK' => c_r_addType hsL (d + 1) (by omega) k a u K' a1 (by omega) (by omega) (by omega) ?_ (fun z t c1 c2 c3 c4 c5 c6 c7 c8 => hK' z t ⟨c1, rf_I2_s hk.1 h1 hJ ha c1 c2 c3 c4 c5 c6 c7 c8, c8⟩)) (fun t h => h.1) (fun h1 t h q hq => ⟨ms - 1, by omega, h37, Or.inr (Or.inl ⟨rfl, k, q, rfl, hk, ?_, ?_, ?_⟩)⟩)
      · rw [hq]
        exact rf_I2_e hk.1 h1 hJ
      · cases y with
        | leaf =>
          have : 0 ≤ x3 ∧ x3 < 2 := b3
          omega
        | inner n uu vv A B =>
          have l1 := rf_args_at x
          rw [b4, List.length_append] at l1
          have l2 : (rf_args (.inner n uu vv A B)).length = (rf_args B).length + 1 := rfl
          omega
      · have := h.1.arr 73 (by decide) rfl x3.toNat
        omega
      · rw [hq]
        exact h.2.1
      · rw [h.2.2]
        have r108t := h.1.arr 108 (by decide) rfl k.toNat
        omega
    · -- 114
      obtain ⟨g, AR, ⟨⟨u1, u2, u3, u4⟩, u5, u6, u7, u8⟩, hV⟩ := hJ
      have e47 := u6.1.2 47 rfl
      have r70 := u4.2.2.2.2.2
      have hESu := rf_Z_ES u6 hES
      refine w_solve_114 (PU := fun z t => ∃ (p : Nat) (P : (Int → rf_N) → Prop), (p ≤ 2700 ∧ k < s.1 66 47) ∧ vr_PU u t g AR z p P ∧ (∀ th, vx_So (vr_S u g AR) th → (P th ↔ vs_E AR' tl k th)) ∧ ∀ th th', vx_gd th → vx_gd th' → vx_ag ((vk_mf l []).length : Int) th th' → vs_E AR' tl k th → vs_E AR' tl k th') u1 (by omega) (fun hge => ⟨1, by omega, h37, Or.inr (Or.inr (Or.inr ⟨rfl, rfl, ?_, rfl⟩))⟩) (fun hlt a b ha hb K' hK' => ?_) (fun z t ⟨_, _, _, h, _⟩ => h.1) (fun z t h hz => hK 1 t (Or.inr ⟨h37, ?_, Or.inr ⟨rfl, ?_, ?_⟩⟩)) (fun hlt z t h hz y hy => ⟨ms - 1, by omega, h37, Or.inr (Or.inr (Or.inl ⟨rfl, y, rfl, by omega, ?_, by omega⟩))⟩)
      · rw [show s.1 66 47 = k by omega]
        exact ⟨g, AR, ⟨⟨u1, u2, u3, u4⟩, u5, u6, u7, u8⟩, hV⟩
      · obtain ⟨x, hx1, hx2⟩ := hESu k.toNat (by omega)
        obtain ⟨A, hA, _⟩ := rf_EQ_RT u2 u5 r70 hx1
        obtain ⟨B, hB, _⟩ := rf_EQ_RT u2 u5 r70 hx2
        have wA := hA.2.2.1
        have wB := hB.2.2.1
        have hq : rf_qu u ≤ 100 := by
          have := u4.2.2.2.2.1
          omega
        have hmm : (rf_qu u + 1) * (1150 + (rf_wh A).1 + (1150 + (rf_wh B).1)) ≤ (rf_qu u + 1) * 2700 := Nat.mul_le_mul (Nat.le_refl _) (by omega)
        have r71 := u1.fld 66 71 (by decide) rfl
        have r58 := u1.fld 66 58 (by decide) rfl
        obtain ⟨j1, j2, j3, j4⟩ := hV trivial
        have hkl : k.toNat < (vk_eq l [] []).length := by omega
        obtain ⟨pe, hpe⟩ : ∃ p, (vk_eq l [] [])[k.toNat]? = some p := ⟨_, List.getElem?_eq_getElem hkl⟩
        obtain ⟨W, V, y1, y2, t0, t1, t2⟩ := htl k.toNat pe hpe
        obtain ⟨s1, s2⟩ := hSD k.toNat pe hpe
        obtain ⟨x0, hz1, hz2⟩ := hES k.toNat (by omega)
        have e98 : u.2.1 98 = (rf_z8 s).2.1 98 := (u6.1.1.same 98 rfl).2
        have e99 : u.2.1 99 = (rf_z8 s).2.1 99 := (u6.1.1.same 99 rfl).2
        obtain ⟨A2, B2, ⟨v1, v2⟩, ⟨v3, v4⟩, v5, v6⟩ := vs_eq (k := k) (M := vk_mf l []) u6 u5 j2 lM.symm (vk_sd_up hUz s1) (vk_sd_up hUz s2) hz1 hz2 t0 t1 t2
        have hA1 : rf_no u A ((rf_z8 s).2.1 98 k.toNat) := by
          rw [← e98]
          exact hA.1.1
        have hB1 : rf_no u B ((rf_z8 s).2.1 99 k.toNat) := by
          rw [← e99]
          exact hB.1.1
        have eA : A = A2 := rf_nd_fun hA1 v1
        have eB : B = B2 := rf_nd_fun hB1 v2
        subst eA eB
        rw [ha, hb]
        exact c_v_unify hsL 1350 (d + 1) (by omega) _ _ A B .leaf .leaf x [] [] (1150 + (rf_wh A).1) (1150 + (rf_wh B).1) _ _ _ _ u g AR K' u1 u2 u3 u4 j1 v3 v4 hA hB (by omega) (by omega) (by omega) (by omega) (fun z t h => hK' z t ⟨_, _, ⟨by omega, by omega⟩, h, fun th hS => v5 _ th hS.1, v6⟩)
      · obtain ⟨p, P, _, hp, _⟩ := h
        have hZt := rf_Z_trans (rf_Z_FS hp.2.2.1) u6
        refine ⟨rf_SO_no hLD hp.2.1 hZt (Or.inl ?_), vk_Z_LD hVL hZt⟩
        exact (hp.2.2.1.1.2 78 rfl).trans u8
      · obtain ⟨p, P, _, hp, _⟩ := h
        exact (hp.2.2.1.1.2 78 rfl).trans u8
      · obtain ⟨p, P, ⟨_, hk7⟩, hp, hp1, hp2⟩ := h
        exact vs_no hk.1 (by omega) hV hp1 hp2 (hp.2.2.2.1 hz)
      · obtain ⟨p, P, ⟨hp0, _⟩, hp, hp1, hp2⟩ := h
        rw [hy]
        have e45u := u6.1.2 45 rfl
        have hU61 := u5.1
        exact vs_I3_s u1 hk.1 (by omega) hp0 u5 u6 u7 u8 hV hp1 hp2 hp hz
    · -- 151
      obtain ⟨g, AR, ⟨⟨u1, u2, u3, u4⟩, u5, u6, u7, u8⟩, hV⟩ := hJ
      have hESu := rf_Z_ES u6 hES
      have e9 := u6.1.2 9 rfl
      have e45 := u6.1.2 45 rfl
      have e47 := u6.1.2 47 rfl
      have hI1 : cx_I (sx_uf u.1 66 78 1, u.2) := cx_I_uf rfl rfl u1 (by decide) (by decide)
      obtain ⟨E1, N1, _⟩ := rf_EX_u1 (nb := u.1 66 71) (ib := u.1 66 58) (v := 1) (s := u) (k := 78) (Or.inl rfl)
      have M1 := rf_NC_MI E1 N1 (Int.le_refl _) (Int.le_refl _) u2
      have P1 : rf_ph (sx_uf u.1 66 78 1, u.2) g ≤ 1150 := by
        rw [rf_NC_ph E1 N1]
        exact u3
      have e : ∀ q, q ≠ 78 → sx_uf u.1 66 78 1 66 q = u.1 66 q := fun q hq => by rw [sx_uf_if, if_neg (fun c => hq c.2)]
      have n50 := e 50 (by decide)
      have n56 := e 56 (by decide)
      have n58 := e 58 (by decide)
      have n61 := e 61 (by decide)
      have n70 := e 70 (by decide)
      have n71 := e 71 (by decide)
      have n45 := e 45 (by decide)
      have n47 := e 47 (by decide)
      have n9 := e 9 (by decide)
      have hRM := u4
      obtain ⟨R1, R2, R3, R4, R5, R6⟩ := hRM
      have hUK := u5.1
      have hV' : vs_J (rf_z8 s) AR' tl (vk_mf l []) u g AR (tl.length : Int) := by
        rw [eL]
        exact hV
      have hsat : vs_sat AR' tl (vk_mf l []) := vs_yes u1 u2 hV'
      obtain ⟨j1, j2, j3, j4⟩ := hV trivial
      obtain ⟨th, hS, ho, _⟩ := vx_fin (vr_W u1 j1) (vr_B1 u1 j1) (vr_rk u1 u2 j1) (vr_Sc u2 j1)
      obtain ⟨hMG, hMa⟩ := wy_MG u1 u2 hDz (by omega) u6 u5 hS ho hV'
      have e3u := u6.1.2 3 rfl
      have e42u := u6.1.2 42 rfl
      have z3 := z4 3 (by decide) (by decide) (by decide) (by decide) (by decide) (by decide) (by decide) (by decide)
      have z42 := z4 42 (by decide) (by decide) (by decide) (by decide) (by decide) (by decide) (by decide) (by decide)
      have out9 : ∀ (a b : sx_S) (W : List (Nat × Nat)), cx_F W a b → (∀ q ∈ W, q.2 < 67 ∨ 99 < q.1) → ∀ p, 68 ≤ p → p ≤ 99 → b.2.1 p = a.2.1 p := fun a b W hW hq p h1 h2 => ((hW p).1 (fun q hq' => by have := hq q hq'; omega)).2
      have arU := out9 (rf_z8 s) u _ u6.1.1 (fun q hq => by
        simp only [List.mem_cons, List.not_mem_nil, or_false] at hq
        rcases hq with rfl | rfl | rfl <;> (dsimp only; omega))
      have hRu : we_Rn E0 u := hRn u (fun p h1 h2 => (arU p h1 h2).trans rfl) (by omega) (by omega)
      have hGu : we_G (wy_E E0 u th AR _) u g := wy_G u1 u2 j1 hS ho (vr_rk u1 u2 j1) (by have := u6.2.2.2.2; omega) hRu
      have hGv := we_G_up (show we_L (wy_E E0 u th AR _) from hL0) u1 u2 E1 N1 (by dsimp only; omega) (fun _ _ _ => rfl) (e 3 (by decide)) hGu
      refine w_solve_151 (PW := fun t => (rf_SO s t ∧ vk_LD b n l (rf_l0 t)) ∧ wr_Y E0 b n l TV AR' tl t ∧ t.1 66 78 = 1) (fun K' hK' => c_e_number (show we_L (wy_E E0 u th AR _) from hL0) (show we_K (wy_E E0 u th AR _) sL sx from hKE) hsL (d + 1) (by omega) hfull (u.1 66 71) (u.1 66 58) _ g K' hI1 M1 ⟨by dsimp only; omega, by dsimp only; omega⟩ P1 ⟨by dsimp only; omega, by dsimp only; omega⟩ (by dsimp only; omega) ⟨by dsimp only; omega, by dsimp only; omega⟩ (by dsimp only; omega) ⟨by dsimp only; omega, by dsimp only; omega⟩ (by dsimp only; omega) (by dsimp only; omega) hGv ?_) (fun t h => hK 0 t (Or.inr ⟨h37, h.1, Or.inl ⟨rfl, hsat, h.2⟩⟩))
      rintro z t ⟨t', hN, hNa, rfl⟩
      refine hK' z _ ?_
      have Z2 := rf_Z_NU hN
      have Z3 : rf_Z t' (sx_uf t'.1 66 89 0, t'.2) := rf_Z_uf (Or.inr rfl)
      have Z1 : rf_Z u (sx_uf u.1 66 78 1, u.2) := rf_Z_uf (Or.inl rfl)
      have Zu := rf_Z_trans Z3 (rf_Z_trans Z2 Z1)
      have Zt := rf_Z_trans Zu u6
      have hN0 := hN
      obtain ⟨⟨a1, a2, a3, a4⟩, ⟨b1, b2⟩, c1, c2, c3, c4, c5⟩ := hN0
      obtain ⟨E3, N3, O3⟩ := rf_EX_u1 (nb := t'.1 66 71) (ib := t'.1 66 58) (v := 0) (s := t') (k := 89) (Or.inr rfl)
      have f : ∀ q, q ≠ 89 → sx_uf t'.1 66 89 0 66 q = t'.1 66 q := fun q hq => by rw [sx_uf_if, if_neg (fun c => hq c.2)]
      have m50 := f 50 (by decide)
      have m56 := f 56 (by decide)
      have m58 := f 58 (by decide)
      have m61 := f 61 (by decide)
      have m70 := f 70 (by decide)
      have m71 := f 71 (by decide)
      have m45 := f 45 (by decide)
      have m47 := f 47 (by decide)
      have m9 := f 9 (by decide)
      have g61 := b2 61 rfl
      have g70 := b2 70 rfl
      have g45 := b2 45 rfl
      have g47 := b2 47 rfl
      have g9 := b2 9 rfl
      dsimp only at c1 c2 c3 c4 c5 g61 g70 g45 g47 g9
      have hIt : cx_I (sx_uf t'.1 66 89 0, t'.2) := cx_I_uf rfl rfl a1 (by decide) (by decide)
      have Mt' : rf_MI (t'.1 66 71) (t'.1 66 58) t' g := rf_NC_MI (rf_EX_le a2 (by dsimp only; omega) (by dsimp only; omega)) a3 (by omega) (by omega) M1
      have Mt : rf_MI (t'.1 66 71) (t'.1 66 58) (sx_uf t'.1 66 89 0, t'.2) g := rf_NC_MI E3 N3 (Int.le_refl _) (Int.le_refl _) Mt'
      have Ut' : rf_UK t' := rf_UK_up a2 (b2 45 rfl) (b1.same 123 rfl).2 (rf_UK_up E1 n45 rfl u5)
      have Ut : rf_UK (sx_uf t'.1 66 89 0, t'.2) := rf_UK_up E3 m45 rfl Ut'
      have ESt := rf_Z_ES Zu hESu
      have pht : rf_ph (sx_uf t'.1 66 89 0, t'.2) g ≤ 1150 := by
        rw [rf_NC_ph E3 N3, rf_NC_ph a2 a3]
        exact P1
      have h70t : 0 ≤ ((sx_uf t'.1 66 89 0, t'.2) : sx_S).1 66 70 := by
        dsimp only
        omega
      have hHS : rf_HS ((sx_uf t'.1 66 89 0, t'.2) : sx_S) g := by
        refine ⟨⟨⟨hIt, ?_, Int.le_refl _, Int.le_refl _, pht⟩, ⟨h70t, by dsimp only; omega⟩, by dsimp only; omega, ⟨by dsimp only; omega, by dsimp only; omega⟩, ⟨by show sx_uf t'.1 66 89 0 66 50 ≤ 59950; omega, by dsimp only; omega⟩, O3 a4⟩, by dsimp only; omega, ⟨by dsimp only; omega, by dsimp only; omega, by dsimp only; omega, by dsimp only; omega⟩, fun k k0 k1 => ?_⟩
        · show rf_MI (sx_uf t'.1 66 89 0 66 71) (sx_uf t'.1 66 89 0 66 58) _ g
          rw [m71, m58]
          exact Mt
        · obtain ⟨x, hx1, hx2⟩ := ESt k.toNat (by omega)
          obtain ⟨A, hA1, hA2⟩ := rf_EQ_RT Mt Ut h70t hx1
          obtain ⟨B, hB1, hB2⟩ := rf_EQ_RT Mt Ut h70t hx2
          exact ⟨⟨A, x, hA1, hA2⟩, ⟨B, x, hB1, hB2⟩⟩
      have EX2 : rf_EX (u.1 66 71) (u.1 66 58) ((sx_uf u.1 66 78 1, u.2) : sx_S) t' := rf_EX_le a2 (by dsimp only; omega) (by dsimp only; omega)
      have ar2 := out9 _ t' _ b1 (fun q hq => by
        simp only [List.mem_cons, List.not_mem_nil, or_false] at hq
        rcases hq with rfl | rfl | rfl <;> (dsimp only; omega))
      have hG2 := we_G_up (show we_L (wy_E E0 u th AR _) from hL0) hI1 M1 EX2 a3 (by dsimp only; omega) ar2 (b2 3 rfl) hGv
      have hG3 := we_G_up (show we_L (wy_E E0 u th AR _) from hL0) a1 Mt' E3 N3 (by dsimp only; omega) (fun _ _ _ => rfl) (f 3 (by decide)) hG2
      have e45t : (sx_uf t'.1 66 89 0 66 45) = sx_uf u.1 66 78 1 66 45 := by omega
      have n79 := f 79 (by decide)
      have hN3 : we_N ((sx_uf t'.1 66 89 0, t'.2) : sx_S) (wz_al th (sx_uf u.1 66 78 1 66 45).toNat) := we_N_same (s := t') n79 m61 (fun _ _ => rfl) hNa
      have lMn : (sx_uf u.1 66 78 1 66 45).toNat = (vk_mf l []).length := by omega
      have hCu : wr_C b n l u := wr_C_c (fun p hp => by
        by_cases c : p = 123
        · rw [c]
          exact (u6.1.1.same 123 rfl).2
        · exact arU p (by omega) (by omega)) (fun k hk => by
        rcases hk with rfl | rfl | rfl | rfl
        · omega
        · omega
        · omega
        · omega) hWC
      have hZZ := wr_Z_mk (t := ((sx_uf t'.1 66 89 0, t'.2) : sx_S)) u1 hIt u2 j1 hS ho hCu (by omega) u5 hWx hWV hMG hMa (by rw [← lMn]; exact hN3) (by show sx_uf t'.1 66 89 0 66 61 = u.1 66 61; omega)
      refine ⟨⟨rf_SO_no hLD hIt Zt (Or.inr ⟨g, hHS⟩), vk_Z_LD hVL Zt⟩, fun _ => ⟨g, wy_ht u, th, AR, _, _, fun _ => ⟨hHS, hG3, ?_, ?_, fun k k0 k1 => ?_⟩, hZZ, ?_, fun m m0 m1 => ?_, ?_, fun k p hp => ?_⟩, (f 78 (by decide)).trans ((b2 78 rfl).trans px_uS)⟩
      · show we_N _ (wz_al th (sx_uf t'.1 66 89 0 66 45).toNat)
        rw [e45t]
        exact hN3
      · exact px_uS
      · have k47 : k.toNat < (vk_eq l [] []).length := by
          have k1' : k < sx_uf t'.1 66 89 0 66 47 := k1
          omega
        obtain ⟨s1, s2⟩ := hSD k.toNat _ (List.getElem?_eq_getElem k47)
        obtain ⟨x0, hz1, hz2⟩ := hES k.toNat (by omega)
        obtain ⟨x, hx1, hx2⟩ := ESt k.toNat (by omega)
        obtain ⟨A, hA1, hA2⟩ := rf_EQ_RT Mt Ut h70t hx1
        obtain ⟨B, hB1, hB2⟩ := rf_EQ_RT Mt Ut h70t hx2
        have e98 : ((sx_uf t'.1 66 89 0, t'.2) : sx_S).2.1 98 = (rf_z8 s).2.1 98 := (Zt.1.1.same 98 rfl).2
        have e99 : ((sx_uf t'.1 66 89 0, t'.2) : sx_S).2.1 99 = (rf_z8 s).2.1 99 := (Zt.1.1.same 99 rfl).2
        rw [e98] at hA1 ⊢
        rw [e99] at hB1 ⊢
        exact ⟨wy_RT Zt Ut j2 hz1 (vk_sd_up hUz s1) hA1 hA2, wy_RT Zt Ut j2 hz2 (vk_sd_up hUz s2) hB1 hB2⟩
      · rw [← vk_mf_vl]
        show sx_uf t'.1 66 89 0 66 45 = _
        omega
      · rw [← vk_mf_vl] at m1 ⊢
        exact (vs_ar hDz (by omega) (rf_Z_xu Zt) Ut m0 m1).1
      · rw [← vk_eq_vl]
        show sx_uf t'.1 66 89 0 66 47 = _
        omega
      · rw [← vk_eq_vl] at hp
        obtain ⟨s1, s2⟩ := hSD k p hp
        have e98 : ((sx_uf t'.1 66 89 0, t'.2) : sx_S).2.1 98 = (rf_l0 s).2.1 98 := (Zt.1.1.same 98 rfl).2
        have e99 : ((sx_uf t'.1 66 89 0, t'.2) : sx_S).2.1 99 = (rf_l0 s).2.1 99 := (Zt.1.1.same 99 rfl).2
        have hon : ∀ m, vx_on (th m) := fun m => (hS.1 m).1
        rw [e98, e99]
        exact ⟨wr_s1_mk Zt hon j2 (vk_sd_up hUz s1), wr_s1_mk Zt hon j2 (vk_sd_up hUz s2)⟩
end
section
/-! ===== the reference: what it answers of an unknown's value ===== -/
/-- what it holds after solving -/
def wr_D (b : Nat → Int) (n : Int) (l : List vl_I) (t : sx_S) : Prop := True → ∃ (TV : Int → qx_T → Prop) (AR' : Nat → List Int) (tl : vw_L), wr_Y (wb_E (wy_nm b n (vl_kf l []))) b n l TV AR' tl t
theorem we_S_k {Ω : Type} {E : we_E Ω} (hL : we_L E) {s t : sx_S} {g : rf_Gh} (hI : cx_I t) (hF : cx_F [(0, 67)] s t) (hf : rf_f [1] s t) (hS : we_S E s g) : we_S E t g := by
  have A : ∀ p, cx_outb [(0, 67)] p = true → t.2.1 p = s.2.1 p := fun p hp => (hF.same p hp).2
  have e9 := hf 9 rfl
  have e42 := hf 42 rfl
  have e50 := hf 50 rfl
  have e56 := hf 56 rfl
  have e58 := hf 58 rfl
  have e61 := hf 61 rfl
  have e64 := hf 64 rfl
  have e70 := hf 70 rfl
  have hE : rf_EX (s.1 66 71) (s.1 66 58) s t := ⟨⟨⟨e9, A 72 rfl, A 73 rfl, A 96 rfl, e42⟩, by omega, by omega, by omega, by omega, by omega⟩, fun j => ⟨fun _ => ⟨congrFun (A 100 rfl) j, congrFun (A 101 rfl) j, congrFun (A 102 rfl) j, congrFun (A 103 rfl) j, congrFun (A 104 rfl) j⟩, fun _ => congrFun (A 105 rfl) j, fun _ => congrFun (A 106 rfl) j, fun _ => ⟨congrFun (A 108 rfl) j, congrFun (A 109 rfl) j, fun _ => ⟨congrFun (A 111 rfl) j, congrFun (A 112 rfl) j, congrFun (A 113 rfl) j, congrFun (A 114 rfl) j⟩⟩, fun _ => congrFun (A 110 rfl) j, fun _ => ⟨congrFun (A 115 rfl) j, congrFun (A 116 rfl) j, congrFun (A 117 rfl) j⟩⟩⟩
  have hN : rf_NC s t := ⟨e61, fun j _ => congrFun (A 111 rfl) j⟩
  have hO : rf_OD t := rf_OD_same (hS trivial).1.1.2.2.2.2.2 e61 (hf 83 rfl) (hf 79 rfl) (fun p hp => by
    rcases hp with rfl | rfl | rfl | rfl
    · exact A 108 rfl
    · exact A 118 rfl
    · exact A 120 rfl
    · exact A 121 rfl)
  refine we_S_up hL hI hE hN hO (fun k hk => ?_) (fun p h1 h2 => ?_) ?_ hS
  · rcases hk with rfl | rfl | rfl | rfl | rfl | rfl | rfl | rfl | rfl <;> exact hf _ rfl
  · exact ((hF p).1 (fun q hq => by
      simp only [List.mem_cons, List.not_mem_nil, or_false] at hq
      rcases hq with rfl
      dsimp only
      omega)).2
  · refine we_N_same (hf 79 rfl) e61 (fun p hp => ?_) (hS trivial).2.2.1
    rcases hp with rfl | rfl | rfl | rfl
    · exact A 108 rfl
    · exact A 118 rfl
    · exact A 120 rfl
    · exact A 121 rfl
theorem wr_D_k {b : Nat → Int} {n : Int} {l : List vl_I} {s t : sx_S} (hI : cx_I t) (hF : cx_F [(0, 67)] s t) (hf : rf_f [1] s t) (h : wr_D b n l s) : wr_D b n l t := fun _ => by
  obtain ⟨TV, AR', tl, hY⟩ := h trivial
  obtain ⟨g, ht, th, AR, rk, S, hS, hZ, e45, har, hsd⟩ := hY trivial
  refine ⟨TV, AR', tl, fun _ => ⟨g, ht, th, AR, rk, S, we_S_k (show we_L ((wb_E (wy_nm b n (vl_kf l []))).1, (wb_E (wy_nm b n (vl_kf l []))).2.1, ht, th, AR, rk) from wb_L _) hI hF hf hS, hZ, (hf 45 rfl).trans e45, fun m m0 m1 => ?_, wr_sd_up (fun p j h1 h2 _ => ?_) (by rw [hf 50 rfl]; exact Int.le_refl _) (hf 47 rfl) (hF.same 98 rfl).2 (hF.same 99 rfl).2 hsd⟩⟩
  · have e : rf_aa t m = rf_aa s m := congrFun (hF.same 108 rfl).2 _
    rw [e]
    exact har m m0 m1
  · exact congrFun ((hF p).1 (fun q hq => by
      simp only [List.mem_cons, List.not_mem_nil, or_false] at hq
      rcases hq with rfl
      dsimp only
      omega)).2 j
theorem wr_D_d {b : Nat → Int} {n : Int} {l : List vl_I} {V : List (Nat × Nat)} {s t : sx_S} (hI : cx_I t) (hF : cx_F V s t) (hV : cx_le V [(0, 65)] = true) (h : wr_D b n l s) : wr_D b n l t := by
  have hF1 : cx_F [(0, 65)] s t := cx_F_step hF hV (cx_F_refl _ _)
  exact wr_D_k hI (cx_F_step hF1 rfl (cx_F_refl _ _)) (fun k _ => by rw [(hF1.same 66 rfl).1]) h
theorem wr_Y_p {b : Nat → Int} {n : Int} {l : List vl_I} {th : Int → rf_N} {AR : Nat → List Int} {s t : sx_S} (hp : rf_PP s t) (e45 : s.1 66 45 = ((vl_mf l []).length : Int)) (har : ∀ m, 0 ≤ m → m < ((vl_mf l []).length : Int) → rf_aa s m = vs_ra (vl_mf l []) m) (hsd : wr_sd b n l th AR s) : t.1 66 45 = ((vl_mf l []).length : Int) ∧ (∀ m, 0 ≤ m → m < ((vl_mf l []).length : Int) → rf_aa t m = vs_ra (vl_mf l []) m) ∧ wr_sd b n l th AR t := by
  obtain ⟨⟨_, a2, _⟩, p2, p3⟩ := hp
  refine ⟨(p3 45 rfl).trans e45, fun m m0 m1 => ?_, wr_sd_up (fun p j h1 h2 h3 => ?_) (by rw [p3 50 rfl]; exact Int.le_refl _) (p3 47 rfl) (p2.same 98 rfl).2 (p2.same 99 rfl).2 hsd⟩
  · have e : rf_aa t m = rf_aa s m := congrFun (p2.same 108 rfl).2 _
    rw [e]
    exact har m m0 m1
  · obtain ⟨d1, d2, d3, d4, _⟩ := (a2.2 j).1 h3
    have hc : p = 100 ∨ p = 101 ∨ p = 102 ∨ p = 103 := by omega
    rcases hc with rfl | rfl | rfl | rfl
    · exact d1
    · exact d2
    · exact d3
    · exact d4
theorem wb_Sp_0 (p : Nat → Int) : wb_Sp 0 p [] := ⟨Or.inl ⟨by decide, rfl⟩, fun i hi => absurd hi (Nat.not_lt_zero _)⟩
/-- for the calls that are not compared -/
theorem wr_ex {b : Nat → Int} {n : Int} {l : List vl_I} {s : sx_S} (h : s.1 66 78 ≠ 0 → wr_D b n l s) : ∃ (E : we_E (List Int)) (g : rf_Gh), (we_L E ∧ ∀ (sL : Nat) (sx : Nat → Int32), sL ≤ 3072 → we_K E sL sx) ∧ (∀ p : Nat → Int, E.2.1.1 0 p []) ∧ (s.1 66 78 ≠ 0 → we_S E s g) ∧ ∀ t, s.1 66 78 ≠ 0 → rf_PP s t → we_S E t g → wr_D b n l t := by
  by_cases c : s.1 66 78 ≠ 0
  · obtain ⟨TV, AR', tl, hY⟩ := h c trivial
    obtain ⟨g, ht, th, AR, rk, S, hS, hZ, e45, har, hsd⟩ := hY trivial
    refine ⟨((wb_E (wy_nm b n (vl_kf l []))).1, (wb_E (wy_nm b n (vl_kf l []))).2.1, ht, th, AR, rk), g, ⟨wb_L _, fun sL sx hsL => wb_K _ hsL⟩, wb_Sp_0, fun _ => hS, fun t _ hp hs => fun _ => ⟨TV, AR', tl, fun _ => ⟨g, ht, th, AR, rk, S, hs, hZ, wr_Y_p hp e45 har hsd⟩⟩⟩
  · exact ⟨wb_E (wy_nm b n (vl_kf l [])), rf_g0 s, ⟨wb_L _, fun sL sx hsL => wb_K _ hsL⟩, wb_Sp_0, fun q => absurd q c, fun t q => absurd q c⟩
theorem c_X_size0 {b : Nat → Int} {n : Int} {l : List vl_I} {sL : Nat} {sx : Nat → Int32} (hsL : sL ≤ 3072) (d : Nat) (hd : 1640 ≤ d) : ∀ (k : Int) (s : sx_S) (K : Int → sx_S → Prop), cx_I s → (-2147483648 ≤ k ∧ k ≤ 2147483647) → (s.1 66 78 ≠ 0 → wr_D b n l s) → (∀ z t, (t = s ∨ (s.1 66 78 ≠ 0 ∧ rf_PP s t)) → (s.1 66 78 ≠ 0 → wr_D b n l t) → K z t) → sx_C sL sx d 215 [.inr (.inl 66), .inl k] s K := by
  intro k s K hI pk hD hK
  obtain ⟨E, g, ⟨hL, hKE⟩, h0, hS, hY⟩ := wr_ex hD
  refine c_e_size hL (hKE sL sx hsL) hsL d (by omega) h0 k s g K hI pk hS (fun z t _ hp => ?_)
  rcases hp with rfl | ⟨p1, p2, p3⟩
  · exact hK z _ (Or.inl rfl) hD
  · exact hK z t (Or.inr ⟨p1, p2⟩) (fun _ => hY t p1 p2 p3)
theorem c_X_letter0 {b : Nat → Int} {n : Int} {l : List vl_I} {sL : Nat} {sx : Nat → Int32} (hsL : sL ≤ 3072) (d : Nat) (hd : 1640 ≤ d) : ∀ (k i : Int) (s : sx_S) (K : Int → sx_S → Prop), cx_I s → (-2147483648 ≤ k ∧ k ≤ 2147483647) → (-2147483648 ≤ i ∧ i ≤ 2147483647) → (s.1 66 78 ≠ 0 → wr_D b n l s) → (∀ z t, (t = s ∨ (s.1 66 78 ≠ 0 ∧ rf_PP s t)) → (s.1 66 78 ≠ 0 → wr_D b n l t) → K z t) → sx_C sL sx d 216 [.inr (.inl 66), .inl k, .inl i] s K := by
  intro k i s K hI pk pi hD hK
  obtain ⟨E, g, ⟨hL, hKE⟩, h0, hS, hY⟩ := wr_ex hD
  refine c_e_letter hL (hKE sL sx hsL) hsL d (by omega) h0 k i s g K hI pk pi hS (fun z t _ hp => ?_)
  rcases hp with rfl | ⟨p1, p2, p3⟩
  · exact hK z _ (Or.inl rfl) hD
  · exact hK z t (Or.inr ⟨p1, p2⟩) (fun _ => hY t p1 p2 p3)
theorem c_X_side0 {b : Nat → Int} {n : Int} {l : List vl_I} {sL : Nat} {sx : Nat → Int32} (hsL : sL ≤ 3072) (d : Nat) (hd : 1640 ≤ d) : ∀ (k i : Int) (s : sx_S) (K : Int → sx_S → Prop), cx_I s → (-2147483648 ≤ k ∧ k ≤ 2147483647) → (-2147483648 ≤ i ∧ i ≤ 2147483647) → (s.1 66 78 ≠ 0 → wr_D b n l s) → (∀ z t, (t = s ∨ (s.1 66 78 ≠ 0 ∧ rf_PP s t)) → (s.1 66 78 ≠ 0 → wr_D b n l t) → K z t) → sx_C sL sx d 217 [.inr (.inl 66), .inl k, .inl i] s K := by
  intro k i s K hI pk pi hD hK
  obtain ⟨E, g, ⟨hL, hKE⟩, h0, hS, hY⟩ := wr_ex hD
  refine c_e_side hL (hKE sL sx hsL) hsL d (by omega) h0 k i s g K hI pk pi hS (fun z t _ hp => ?_)
  rcases hp with rfl | ⟨p1, p2, p3⟩
  · exact hK z _ (Or.inl rfl) hD
  · exact hK z t (Or.inr ⟨p1, p2⟩) (fun _ => hY t p1 p2 p3)
theorem wb_Sp_sz {a z : Int} {p : Nat → Int} {o : List Int} (h : wb_Sp a p o) (hz : (4000 < a ∧ z = -1) ∨ (a ≤ 4000 ∧ z = a)) : z = wy_sz o := by
  obtain ⟨h1, _⟩ := h
  unfold wy_sz
  by_cases c : o.length ≤ 4000
  · rw [if_pos c]
    omega
  · rw [if_neg c]
    omega
/-! a side -/
theorem w_x_side {CALL : sx_Ca} {sL : Nat} {sx : Nat → Int32} {Q : Nat → sx_L → sx_S → Prop} {R : Int → sx_S → Prop} {s : sx_S} {k i : Int} {PP : Int → sx_S → Prop} (hI : cx_I s) (pk : -2147483648 ≤ k ∧ k ≤ 2147483647) (pi : -2147483648 ≤ i ∧ i ≤ 2147483647) (hP : s.1 66 78 ≠ 0 → (0 ≤ k ∧ k < s.1 66 47) → (0 ≤ i ∧ i ≤ 1) → ∀ K : Int → sx_S → Prop, (∀ z t, PP z t → K z t) → CALL 213 [.inr (.inl 66), .inl k, .inl 1, .inl i] s K) (hK : ∀ z t, PP z t → R z t) (hN : ¬ (s.1 66 78 ≠ 0 ∧ (0 ≤ k ∧ k < s.1 66 47) ∧ 0 ≤ i ∧ i ≤ 1) → R (-1) s) : sx_wp true sL sx eX12_side CALL [] Q R 400 0 (sx_argsF 0 [.inr (.inl 66), .inl k, .inl i]) [] s := by
  repeat' (first | (with_reducible intro _) | (refine And.intro ?_ ?_) | (refine hN ?_) | (refine hK _ _ (by assumption)) | (refine hP ?_ ?_ ?_ _ ?_))
  all_goals (try dsimp only)
  all_goals (first | trivial | assumption | omega | (dsimp only at *; omega) | (simp only [sx_w_t] at *; omega) | (subst_vars; omega) | (subst_vars; assumption) | (subst_vars; dsimp only at *; omega) | (subst_vars; dsimp only at *; simp only [sx_w_t] at *; omega) | skip)
theorem c_X_side {b : Nat → Int} {n : Int} {l : List vl_I} {sL : Nat} {sx : Nat → Int32} (hsL : sL ≤ 3072) (d : Nat) (hd : 1640 ≤ d) : ∀ (k i : Int) (s : sx_S) (K : Int → sx_S → Prop), cx_I s → (-2147483648 ≤ k ∧ k ≤ 2147483647) → (-2147483648 ≤ i ∧ i ≤ 2147483647) → (s.1 66 78 ≠ 0 → wr_D b n l s) → (∀ z t, (-1 ≤ z ∧ z ≤ 4000) → (t = s ∨ (s.1 66 78 ≠ 0 ∧ rf_PP s t)) → (s.1 66 78 ≠ 0 → wr_D b n l t) → (((s.1 66 78 ≠ 0 ∧ (0 ≤ k ∧ k < s.1 66 47) ∧ 0 ≤ i ∧ i ≤ 1) ∧ ∃ o, wy_Os b n l k i o ∧ z = wy_sz o ∧ wb_Sp (t.1 66 86) (t.2.1 122) o) ∨ (¬ (s.1 66 78 ≠ 0 ∧ (0 ≤ k ∧ k < s.1 66 47) ∧ 0 ≤ i ∧ i ≤ 1) ∧ z = -1)) → K z t) → sx_C sL sx d 217 [.inr (.inl 66), .inl k, .inl i] s K := by
  intro k i s K hI pk pi hD hK
  obtain ⟨d, rfl⟩ : ∃ e, d = e + 2 := ⟨d - 2, by omega⟩
  by_cases c : s.1 66 78 ≠ 0
  · obtain ⟨TV, AR', tl, hY⟩ := hD c trivial
    obtain ⟨g, ht, th, AR, rk, S, hS, hZ, e45, har, hsd⟩ := hY trivial
    refine sx_meth (wr := true) (n := 400) hsL (e := eX12_side) rfl (w_x_side (Q := fun _ _ _ => False) (PP := fun z t => (-1 ≤ z ∧ z ≤ 4000) ∧ rf_PP s t ∧ wr_D b n l t ∧ ((0 ≤ k ∧ k < s.1 66 47) ∧ 0 ≤ i ∧ i ≤ 1) ∧ ∃ o, wy_Os b n l k i o ∧ z = wy_sz o ∧ wb_Sp (t.1 66 86) (t.2.1 122) o) hI pk pi (fun h1 h2 h3 K' hK' => c_e_papers (E := ((wb_E (wy_nm b n (vl_kf l []))).1, (wb_E (wy_nm b n (vl_kf l []))).2.1, ht, th, AR, rk)) (wb_L _) (wb_K _ hsL) hsL (d + 1) (by omega) wb_Sp_0 k 1 i s g K' hS (Or.inr ⟨rfl, h2⟩) pi (fun z t hz hp hs hpr => hK' z t ⟨hz, hp, ?_, ⟨h2, h3⟩, ?_⟩)) (fun z t h => hK z t h.1 (Or.inr ⟨c, h.2.1⟩) (fun _ => h.2.2.1) (Or.inl ⟨⟨c, h.2.2.2.1⟩, h.2.2.2.2⟩)) (fun q => hK (-1) s (by omega) (Or.inl rfl) hD (Or.inr ⟨q, rfl⟩)))
    · exact fun _ => ⟨TV, AR', tl, fun _ => ⟨g, ht, th, AR, rk, S, hs, hZ, wr_Y_p hp e45 har hsd⟩⟩
    · obtain ⟨Z, z1, z2, z3⟩ := hpr
      have z1' : wb_Sp (t.1 66 86) (t.2.1 122) Z.2 := z1
      refine ⟨Z.2, fun _ => ?_, wb_Sp_sz z1' z2, z1'⟩
      have hk : k.toNat < (vl_eq l [] []).length := by
        have := hsd.1
        omega
      have hpe := List.getElem?_eq_getElem hk
      obtain ⟨l1, l2⟩ := vs_tl_mk (hZ trivial).1.1
      obtain ⟨W, V, x, y, w1, w2, w3⟩ := l2 k.toNat _ hpe
      obtain ⟨s1, s2⟩ := hsd.2 k.toNat _ hpe
      have e45' : (s.1 66 45).toNat = (vl_mf l []).length := by omega
      have hg : vx_gd th := ((hZ trivial).1.2.1 trivial).2.2.1.1.1
      rcases z3 with ⟨z3, _⟩ | ⟨_, A, z4, _, _, z5⟩
      · exact absurd z3 (by decide)
      · have key : ∀ {N : px_N} {X : rf_N} {xx : qx_T} {zz : Int}, rf_no s A zz → wr_s1 (px_SN b n) ((vl_eq l [] [])[k.toNat]).1.1 ((vl_eq l [] [])[k.toNat]).1.2 N th AR s zz → (vl_tm (px_SN b n) ((vl_eq l [] [])[k.toNat]).1.1 ((vl_eq l [] [])[k.toNat]).1.2 TV AR' N).1 X [] [] xx → Z.2 = ((we_W (wk_E (wy_nm b n (vl_kf l [])) ht) (vx_val th AR' X (dv_lk []) 0)).1 0 (wz_al th (vl_mf l []).length, [])).2 := fun {N X xx zz} a1 a2 a3 => by
          obtain ⟨B, ⟨b1, b2⟩, b3⟩ := a2
          have eB : A = B := rf_nd_fun a1 b1
          subst eB
          have ev : vx_re (we_D s 0) (vx_val th AR (vr_1 A) (rf_look .leaf) (s.1 66 58)) = vx_val th AR' X (dv_lk []) 0 := by
            rw [vx_val_re hg (L' := 0) (fun j hj => by
              unfold we_D
              rw [if_neg (by omega)]
              omega), b2]
            exact b3 TV AR' X xx _ _ 0 a3
          have z5' : Z = (we_W (wk_E (wy_nm b n (vl_kf l [])) ht) (vx_re (we_D s 0) (vx_val th AR (vr_1 A) (rf_look .leaf) (s.1 66 58)))).1 0 (wz_al th (s.1 66 45).toNat, []) := z5
          rw [ev, e45'] at z5'
          rw [z5']
        by_cases q : i = 0
        · rw [if_pos q] at z4
          exact ⟨TV, AR', tl, S, th, ht, wy_nm b n (vl_kf l []), _, W, x, hZ, hpe, by rw [if_pos q]; exact w2, key z4 s1 w2⟩
        · rw [if_neg q] at z4
          exact ⟨TV, AR', tl, S, th, ht, wy_nm b n (vl_kf l []), _, V, y, hZ, hpe, by rw [if_neg q]; exact w3, key z4 s2 w3⟩
  · refine sx_meth (wr := true) (n := 400) hsL (e := eX12_side) rfl (w_x_side (Q := fun _ _ _ => False) (PP := fun _ _ => False) hI pk pi (fun h1 _ _ _ _ => absurd h1 c) (fun _ _ h => h.elim) (fun q => hK (-1) s (by omega) (Or.inl rfl) hD (Or.inr ⟨q, rfl⟩)))
theorem w_x_sideLetter {CALL : sx_Ca} {sL : Nat} {sx : Nat → Int32} {Q : Nat → sx_L → sx_S → Prop} {R : Int → sx_S → Prop} {s : sx_S} {k si i : Int} {PS : Int → sx_S → Prop} (pi : -2147483648 ≤ i ∧ i ≤ 2147483647) (hS : ∀ K : Int → sx_S → Prop, (∀ z t, PS z t → K z t) → CALL 217 [.inr (.inl 66), .inl k, .inl si] s K) (hSI : ∀ z t, PS z t → cx_I t ∧ (-1 ≤ z ∧ z ≤ 4000)) (hK1 : ∀ z t, PS z t → 0 ≤ i → i < z → R (t.2.1 122 i.toNat) t) (hK0 : ∀ z t, PS z t → (i < 0 ∨ z ≤ i) → R (-1) t) : sx_wp true sL sx eX12_sideLetter CALL [] Q R 400 0 (sx_argsF 0 [.inr (.inl 66), .inl k, .inl si, .inl i]) [] s := by
  repeat' (first | (with_reducible (rintro _ rfl)) | (with_reducible intro _) | (refine And.intro ?_ ?_) | (refine hS _ (fun zz1 zt1 zp1 => ?_); have zr1 := hSI zz1 zt1 zp1; have zi1 := zr1.1) | (fail))
  all_goals (try dsimp only at *)
  all_goals (first | trivial | assumption | omega | (exfalso; omega) | (exact hK1 _ _ zp1 (by omega) (by omega)) | (exact hK0 _ _ zp1 (by omega)) | (have ra := zi1.arr 122 (by decide) rfl i.toNat; omega) | skip)
theorem c_X_sideLetter {b : Nat → Int} {n : Int} {l : List vl_I} {sL : Nat} {sx : Nat → Int32} (hsL : sL ≤ 3072) (d : Nat) (hd : 1650 ≤ d) : ∀ (k si i : Int) (s : sx_S) (K : Int → sx_S → Prop), cx_I s → (-2147483648 ≤ k ∧ k ≤ 2147483647) → (-2147483648 ≤ si ∧ si ≤ 2147483647) → (-2147483648 ≤ i ∧ i ≤ 2147483647) → (s.1 66 78 ≠ 0 → wr_D b n l s) → (∀ z t, cx_I t → (t = s ∨ (s.1 66 78 ≠ 0 ∧ rf_PP s t)) → (s.1 66 78 ≠ 0 → wr_D b n l t) → (((s.1 66 78 ≠ 0 ∧ (0 ≤ k ∧ k < s.1 66 47) ∧ 0 ≤ si ∧ si ≤ 1) ∧ ∃ o, wy_Os b n l k si o ∧ z = wy_by o i) ∨ (¬ (s.1 66 78 ≠ 0 ∧ (0 ≤ k ∧ k < s.1 66 47) ∧ 0 ≤ si ∧ si ≤ 1) ∧ z = -1)) → K z t) → sx_C sL sx d 218 [.inr (.inl 66), .inl k, .inl si, .inl i] s K := by
  intro k si i s K hI pk psi pi hD hK
  obtain ⟨d, rfl⟩ : ∃ e, d = e + 2 := ⟨d - 2, by omega⟩
  refine sx_meth (wr := true) (n := 400) hsL (e := eX12_sideLetter) rfl (w_x_sideLetter (Q := fun _ _ _ => False) (PS := fun z t => (-1 ≤ z ∧ z ≤ 4000) ∧ (t = s ∨ (s.1 66 78 ≠ 0 ∧ rf_PP s t)) ∧ (s.1 66 78 ≠ 0 → wr_D b n l t) ∧ (((s.1 66 78 ≠ 0 ∧ (0 ≤ k ∧ k < s.1 66 47) ∧ 0 ≤ si ∧ si ≤ 1) ∧ ∃ o, wy_Os b n l k si o ∧ z = wy_sz o ∧ wb_Sp (t.1 66 86) (t.2.1 122) o) ∨ (¬ (s.1 66 78 ≠ 0 ∧ (0 ≤ k ∧ k < s.1 66 47) ∧ 0 ≤ si ∧ si ≤ 1) ∧ z = -1))) pi (fun K' hK' => c_X_side hsL (d + 1) (by omega) k si s K' hI pk psi hD (fun z t h1 h2 h3 h4 => hK' z t ⟨h1, h2, h3, h4⟩)) (fun z t h => ⟨?_, h.1⟩) (fun z t h i0 i1 => ?_) (fun z t h hi => ?_))
  · rcases h.2.1 with rfl | h3
    · exact hI
    · exact h3.2.1.1
  · have hIt : cx_I t := by
      rcases h.2.1 with rfl | h3
      · exact hI
      · exact h3.2.1.1
    obtain ⟨h1, h2, h3, h4⟩ := h
    rcases h4 with ⟨c, o, o1, o2, o3⟩ | ⟨_, c⟩
    · refine hK _ t hIt h2 h3 (Or.inl ⟨c, o, o1, ?_⟩)
      unfold wy_sz at o2
      unfold wy_by
      by_cases q : o.length ≤ 4000
      · rw [if_pos q] at o2
        rw [if_pos ⟨q, i0, by omega⟩, List.getD_eq_getElem?_getD, o3.2 i.toNat (by omega) (by omega)]
        rfl
      · rw [if_neg q] at o2
        omega
    · omega
  · have hIt : cx_I t := by
      rcases h.2.1 with rfl | h3
      · exact hI
      · exact h3.2.1.1
    obtain ⟨h1, h2, h3, h4⟩ := h
    rcases h4 with ⟨c, o, o1, o2, o3⟩ | c
    · refine hK _ t hIt h2 h3 (Or.inl ⟨c, o, o1, ?_⟩)
      unfold wy_sz at o2
      unfold wy_by
      by_cases q : o.length ≤ 4000
      · rw [if_pos q] at o2
        rw [if_neg (by omega)]
      · rw [if_neg (fun z => q z.1)]
    · exact hK _ t hIt h2 h3 (Or.inr ⟨c.1, rfl⟩)
end
