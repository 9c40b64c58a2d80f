/-! ===== the reference's solve, with how many new unknowns it numbers ===== -/
noncomputable def wy_T (u : sx_S) (m : Int) (q : Nat) : rf_T := @dite rf_T (∃ T, rf_py u m q T) (Classical.propDecidable _) (fun h => Classical.choose h) (fun _ => .leaf)
noncomputable def wy_ht (u : sx_S) (h : Int) : List rf_T := (List.range 4).map (wy_T u (-1 - h))
theorem wy_ht_at {u : sx_S} {m : Int} {q : Nat} (hq : q < 4) (h : ∃ T, rf_py u m q T) : rf_py u m q ((wy_ht u (-1 - m)).getD q .leaf) := by
  have e : (wy_ht u (-1 - m)).getD q .leaf = wy_T u m q := by
    unfold wy_ht
    rw [List.getD_eq_getElem?_getD, List.getElem?_map, List.getElem?_range hq]
    show wy_T u (-1 - (-1 - m)) q = _
    rw [show -1 - (-1 - m) = m by omega]
  rw [e]
  unfold wy_T
  rw [dif_pos h]
  exact Classical.choose_spec h
section
variable {Ω : Type}
noncomputable def wy_E (E0 : we_E Ω) (u : sx_S) (th : Int → rf_N) (AR : Nat → List Int) (rk : Int → Nat) : we_E Ω := (E0.1, E0.2.1, wy_ht u, th, AR, rk)
theorem wy_nn {nb ib : Int} {s : sx_S} {g : rf_Gh} {AR : Nat → List Int} (hM : rf_MI nb ib s g) : ∀ u B e, (vr_S s g AR).2.2.2.1 u = some (B, e) → wz_nn B := fun u B e hb => by
  obtain ⟨h1, h2, h3, _⟩ := vr_bo_some hb
  rw [← h3]
  exact (we_nn we_Hn1).1 _ ((hM.1 u h1.1 h1.2).2.2.2 h2).1.2.1
theorem wy_G {E0 : we_E Ω} {nb ib : Int} {u : sx_S} {g : rf_Gh} {AR : Nat → List Int} {th : Int → rf_N} {rk : Int → Nat} (hI : cx_I u) (hM : rf_MI nb ib u g) (hG : vr_G u g AR) (hS : vx_So (vr_S u g AR) th) (ho : ∀ v, (vr_S u g AR).2.2.2.1 v = none → th v = vx_gn (vr_ar u) v) (hrk : vx_rk (vr_S u g AR) rk) (h58 : 1 ≤ u.1 66 58) (hR : we_Rn E0 u) : we_G (wy_E E0 u th AR rk) u g := fun _ => by
  refine ⟨⟨hG, hS⟩, fun m m0 m1 h0 => ho m (vr_bo_no h0), fun m m0 m1 => (wz_sol hrk (vr_W hI hG) (vr_B1 hI hG) hS ho (wy_nn hM) hS m m0 m1).1, fun v m v0 v1 hs hm => hrk v _ _ m (vr_bo_at ⟨v0, v1⟩ hs) hm, fun m q m0 m1 hq => wy_ht_at ?_ ((hM.1 m m0 m1).1 q hq), h58, hR⟩
  have := vr_aa0 hI m
  omega
theorem wy_MG {s u : sx_S} {AR' AR : Nat → List Int} {tl : List (rf_N × rf_N)} {M : List (Int × qx_T)} {g : rf_Gh} {nb ib mt : Int} {th : Int → rf_N} (hI : cx_I u) (hM : rf_MI nb ib u g) (hD : px_DL 97 123 45 mt s M) (h9 : 2 ≤ s.1 66 9) (hZ : rf_Z s u) (hU : rf_UK u) (hS : vx_So (vr_S u g AR) th) (ho : ∀ v, (vr_S u g AR).2.2.2.1 v = none → th v = vx_gn (vr_ar u) v) (hJ : vs_J s AR' tl M u g AR (tl.length : Int)) : wz_MG (vr_S u g AR) (M.length : Int) (vs_Q AR' tl (tl.length : Int)) th ∧ ∀ m, 0 ≤ m → m < (M.length : Int) → (vr_S u g AR).2.2.1 m = vs_ra M m := by
  obtain ⟨j1, j2, j3, j4⟩ := hJ trivial
  have xu := rf_Z_xu hZ
  have ar : ∀ m, 0 ≤ m → m < (M.length : Int) → vr_ar u m = vs_ra M m := fun m m0 m1 => by
    obtain ⟨v1, v2⟩ := vs_ar hD h9 xu hU m0 m1
    rw [vr_ar_at ⟨m0, v2⟩, v1]
  refine ⟨fun _ => ⟨⟨vr_W hI j1, vr_B1 hI j1, _, vr_rk hI hM j1⟩, wy_nn hM, ⟨hS, ho⟩, fun th' h => (j3 th' h).2, ?_, fun th0 g0 s0 q0 => j4 th0 ⟨g0, fun m m0 m1 => ?_⟩ q0⟩, ar⟩
  · show (M.length : Int) ≤ u.1 66 61
    have e1 := (hD trivial).1
    have e2 := (xu.2 0).1.2.2.2.2
    have e3 := hU.1
    omega
  · rw [← ar m m0 m1]
    exact s0 m m0 m1
/-- a side of an equation, for those that write -/
theorem wy_RT {E : we_E Ω} {s t : sx_S} {g : rf_Gh} {SN : Int → Int → Prop} {C M0 : List (Int × qx_T)} {n1 : px_N} {z : Int} {x y : rf_T} {A : rf_N} (hZ : rf_Z s t) (hU : rf_UK t) (hR : ∀ i m ws, vk_RX s i m ws → we_AR E i = ws) (q1 : rf_EQ s z y) (d1 : vk_sd SN C M0 n1 s z) (hA : rf_CL t g (fun _ _ => False) A .leaf x [] (1150 + (rf_wh A).1) z (-1)) (hfo : ∀ v, ¬ (rf_fo (rf_Wd t g.2.2) A).1 v) : we_RT E t g z := by
  obtain ⟨A', e1, e2, _⟩ := q1
  obtain ⟨A2, ⟨a1, a2⟩, _⟩ := d1
  obtain rfl := rf_nd_fun a1 e1
  have h50 := hZ.2.2.1
  have ag : rf_ag 100 103 (s.1 66 50) s t := fun p j h1 h2 h3 => hZ.2.1.1 p j h1 (by omega) h3
  have eA : A = A2 := rf_nd_fun hA.1.1 (rf_no_up ag h50 a1)
  subst eA
  refine ⟨A, x, hA, hfo, (vs_g h50 (vs_p hZ hU hR) a1).1 _ e2, fun m hm => ?_⟩
  have gg := (vs_g (n := s.1 66 50) (p := fun _ r => 0 ≤ r ∧ r < s.1 66 45) (Int.le_refl _) (fun j r e _ hm' _ => by
    obtain ⟨x, ⟨h, _⟩, _⟩ := hm'
    exact h) a1).1 _ e2
  obtain ⟨_, h⟩ := vs_mt.1 gg hm
  have e45 := ((rf_Z_xu hZ).2 0).1.2.2.2.2
  omega
end
