/-! ===== a step of solving ===== -/
theorem dv_G_tp {tv tc : Int → rf_T} {n0 : Int} {Qs : (Int → rf_N) → Prop} {s u : sx_S} {S : vx_S} {PR : Int → List (Int × Int)} {tm : Int → Int → rf_T} {p : dv_E} {r : List dv_E} {A B : rf_N} {c e : List (Int × Int)} {L : Int} (h : dv_G tv tc n0 Qs s S PR tm [] (p :: r)) (hI : cx_I u) (hF : cx_F [(29, 32), (38, 39)] s u) (h39 : u.1 39 6 = (r.length : Int)) (hl : dv_lm p.2.2.2 s u) (hd : vx_rd S p.1.1 p.1.2 p.2.1.1 p.2.1.2 p.2.2.1 A c B e L) : dv_G tv tc n0 Qs u S PR tm [((A, dv_lk c), (B, dv_lk e), L)] r := fun _ => by
  obtain ⟨g1, g2, g3, g4, ⟨⟨_, _, _, _, g5⟩, g6⟩, ⟨_, g7⟩, g8⟩ := h trivial
  have nf : dv_nf (s.1 11 6) S.2.2.2.2 S.2.2.2.2 s u := dv_nf_F _ hF (by decide)
  refine ⟨hI, dv_M_fr (Int.le_refl _) (by rw [(hF.same 11 rfl).1]) nf (by rw [(hF.same 33 rfl).1]) (hF.same 34 rfl).2 (hF.same 35 rfl).2 (hF.same 36 rfl).2 (hF.same 37 rfl).2 g2, g3, g4, ⟨dv_ps_hi (hl trivial).1 (dv_ps_fr (Int.le_refl _) nf (hl trivial).2 (fun i _ => ?_) g5), h39⟩, g7, ?_⟩
  · rw [(hF.same 40 rfl).2, (hF.same 41 rfl).2, (hF.same 42 rfl).2, (hF.same 43 rfl).2, (hF.same 44 rfl).2, (hF.same 45 rfl).2]
    exact ⟨rfl, rfl, rfl, rfl, rfl, rfl⟩
  · refine vx_J_rep (ps := [((A, dv_lk c), (B, dv_lk e), L)]) (p := dv_pe p) (pend := r.map dv_pe) g8 (fun th hS => ?_)
    have hx : vx_pe th S.2.2.2.2 (dv_pe p) ↔ vx_pe th S.2.2.2.2 ((A, dv_lk c), (B, dv_lk e), L) := (hd trivial).1 th hS
    exact ⟨fun h q hq => by rw [List.mem_singleton.mp hq]; exact hx.mp h, fun h => hx.mpr (h _ List.mem_cons_self)⟩
/-- one pair in place of another that says the same -/
theorem dv_G_rep {tv tc : Int → rf_T} {n0 : Int} {Qs : (Int → rf_N) → Prop} {s : sx_S} {S : vx_S} {PR : Int → List (Int × Int)} {tm : Int → Int → rf_T} {p q : vx_P} {r : List dv_E} (h : dv_G tv tc n0 Qs s S PR tm [p] r) (hp : ∀ th, vx_So S th → (vx_pe th S.2.2.2.2 p ↔ vx_pe th S.2.2.2.2 q)) : vx_J S n0 Qs ([q] ++ r.map dv_pe) := by
  obtain ⟨_, _, _, _, _, _, g8⟩ := h trivial
  refine vx_J_rep (ps := [q]) (p := p) (pend := r.map dv_pe) g8 (fun th hS => ?_)
  rw [hp th hS]
  exact ⟨fun h w hw => by rw [List.mem_singleton.mp hw]; exact h, fun h => h _ List.mem_cons_self⟩
/-- two heads are taken apart: the pairs of their ARGs -/
theorem dv_es_zp {tv tc : Int → rf_T} {tm : Int → Int → rf_T} {S : vx_S} {j j' : Nat} {k h k' h' L u : Int} {F F' : rf_N} {c e : List (Int × Int)} {r : List dv_E} (h0 : k ≠ 0) (h3 : k ≠ 3) (h0' : k' ≠ 0) (h3' : k' ≠ 3) (hr : dv_es tv tc tm S r) (h4 : rf_len F ≤ 4) {lt : Int → rf_T} {t t' uu : rf_T} (s1 : vx_sd tv tc tm S lt L t (rf_n j k h F .leaf) c) (s2 : vx_sd tv tc tm S lt L t' (rf_n j' k' h' F' .leaf) e) (tF : (vx_ty tv tc tm S.2.2.2.2 F).2 uu) (tF' : (vx_ty tv tc tm S.2.2.2.2 F').2 uu) (hc : vx_c2 S (rf_n j k h F .leaf) (rf_n j' k' h' F' .leaf) u L r.length) : dv_es tv tc tm S (dv_zp F F' c e L u ++ r) := by
  obtain ⟨hl, hel⟩ := vx_ty_el tF tF'
  have key : ∀ (l l' : List rf_N), l.length ≤ 4 → l.length = l'.length → (∀ (i : Nat) A B, l[i]? = some A → l'[i]? = some B → (A ∈ vx_el F ∧ B ∈ vx_el F') ∧ ∃ t, (vx_ty tv tc tm S.2.2.2.2 A).1 t ∧ (vx_ty tv tc tm S.2.2.2.2 B).1 t) → dv_es tv tc tm S (List.zipWith (fun a b => ((a, c), (b, e), L, u)) l l' ++ r) := by
    intro l
    induction l with
    | nil => exact fun l' _ _ _ => by rw [List.zipWith_nil_left]; exact hr
    | cons A l ih =>
      intro l' hl4 hle hh
      cases l' with
      | nil => cases hle
      | cons B l' =>
        rw [List.length_cons] at hl4
        rw [List.length_cons, List.length_cons] at hle
        obtain ⟨⟨m1, m2⟩, ty, y1, y2⟩ := hh 0 A B rfl rfl
        refine ⟨⟨fun _ => ⟨lt, ty, vx_sd_el h0 h3 m1 y1 s1, vx_sd_el h0' h3' m2 y2 s2⟩, vx_c2_el h0 h3 h0' h3' m1 m2 ?_ hc⟩, ih l' (by omega) (by omega) (fun i A' B' e1 e2 => hh (i + 1) A' B' e1 e2)⟩
        show (List.zipWith _ l l' ++ r).length ≤ r.length + 3
        rw [List.length_append, List.length_zipWith]
        omega
  exact key (vx_el F) (vx_el F') (by rw [vx_el_len]; exact h4) (by rw [vx_el_len, vx_el_len]; exact hl) (fun i A B e1 e2 => ⟨⟨List.mem_of_getElem? e1, List.mem_of_getElem? e2⟩, hel i A B e1 e2⟩)
/-- A' is reached from A by the unknowns w, each given -/
def vw_wy (S : vx_S) : List Int → rf_N → rf_N → Prop
  | [], A, A' => A = A'
  | m :: w, A, A' => ∃ (j : Nat) (F B : rf_N) (e : Int → Int), A = rf_n j 3 m F .leaf ∧ S.2.2.2.1 m = some (B, e) ∧ vw_wy S w B A'
theorem vw_wy_snoc {S : vx_S} {j : Nat} {m : Int} {F X : rf_N} {e : Int → Int} (hb : S.2.2.2.1 m = some (X, e)) : ∀ {w : List Int} {A : rf_N}, vw_wy S w A (rf_n j 3 m F .leaf) → vw_wy S (w ++ [m]) A X
  | [], A, h => ⟨j, F, X, e, h, hb, rfl⟩
  | n :: w, A, ⟨j', F', B, e', h1, h2, h3⟩ => ⟨j', F', B, e', h1, h2, vw_wy_snoc hb h3⟩
/-- not two calls of one unknown with the same ARGs -/
def vw_ne (S : vx_S) (A : rf_N) (c : List (Int × Int)) (B : rf_N) (e : List (Int × Int)) : Prop := ∀ (j j' : Nat) (m : Int) (F F' : rf_N), A = rf_n j 3 m F .leaf → B = rf_n j' 3 m F' .leaf → (S.2.2.2.2 j).map (dv_lk c) ≠ (S.2.2.2.2 j').map (dv_lk e)
/-- the pair p without its \ -/
def vw_D (tv tc : Int → rf_T) (tm : Int → Int → rf_T) (S : vx_S) (p : dv_E) (A : rf_N) (c : List (Int × Int)) (B : rf_N) (e : List (Int × Int)) (L : Int) : Prop := True → vx_rd S p.1.1 p.1.2 p.2.1.1 p.2.1.2 p.2.2.1 A c B e L ∧ vx_2 tv tc tm S A c B e L ∧ ¬ vx_isl A ∧ ¬ vx_isl B
/-- what a step makes of the pile p :: r -/
def vw_ST (tv tc : Int → rf_T) (tm : Int → Int → rf_T) (S S' : vx_S) (p : dv_E) (r r' : List dv_E) : Prop := True → ∃ (A : rf_N) (c : List (Int × Int)) (B : rf_N) (e : List (Int × Int)) (L : Int), vw_D tv tc tm S p A c B e L ∧ ((r' = r ∧ vx_l2 (fun C => ∃ w, vw_wy S w A C ∨ vw_wy S w B C) S S') ∨ (S' = S ∧ vw_ne S A c B e ∧ ∃ (wa wb : List Int) (j : Nat) (k h : Int) (F : rf_N) (j' : Nat) (k' h' : Int) (F' : rf_N) (c' e' : List (Int × Int)) (mk : Int), vw_wy S wa A (rf_n j k h F .leaf) ∧ vw_wy S wb B (rf_n j' k' h' F' .leaf) ∧ (k ≠ 0 ∧ k ≠ 3 ∧ k' ≠ 0 ∧ k' ≠ 3) ∧ rf_len F = rf_len F' ∧ r' = dv_zp F F' c' e' L mk ++ r))

theorem c_dv_st {tv tc : Int → rf_T} {n0 : Int} {Qs : (Int → rf_N) → Prop} {sL : Nat} {sx : Nat → Int32} (hsL : sL ≤ 3072) (d : Nat) (hd : 10 ≤ d) (hQ : ∀ th th', vx_ag n0 th th' → Qs th → Qs th') : ∀ (S : vx_S) (PR : Int → List (Int × Int)) (tm : Int → Int → rf_T) (p : dv_E) (r : List dv_E) (s : sx_S) (K : Int → sx_S → Prop), dv_G tv tc n0 Qs s S PR tm [] (p :: r) → (∀ u, cx_I u → vx_NO n0 Qs S → K 0 u) → (∀ u S' PR' tm' r', vx_le S S' → dv_G tv tc n0 Qs u S' PR' tm' [] r' → vw_ST tv tc tm S S' p r r' → K 1 u) → sx_C sL sx d 71 [.inr (.inl 38)] s K := by
  intro S PR tm p r s K hG hK0 hK1
  obtain ⟨g1, g2, g3, g4, ⟨g5, g6⟩, ⟨⟨g7, g7c⟩, g7r⟩, g8⟩ := hG trivial
  obtain ⟨⟨W, B1, Sc, rk, hrk⟩, _⟩ := g3 trivial
  obtain ⟨b1, b2, b3⟩ := vx_c2_bd hrk W g4 g7c
  have g6' : s.1 39 6 = (r.length : Int) + 1 := g6
  obtain ⟨d, rfl⟩ : ∃ e, d = e + 2 := ⟨d - 2, by omega⟩
  refine sx_methL (wr := true) (n := 400) (n' := 400) (stop := [(4, [0]), (68, [0]), (142, [0])]) (fun nn pc ls u => ls = [(0, .inr (.inl 38))] ∧ ∃ (A : rf_N) (c : List (Int × Int)) (B : rf_N) (e : List (Int × Int)) (L : Int), ((dv_G tv tc n0 Qs u S PR tm [((A, dv_lk c), (B, dv_lk e), L)] r ∧ dv_cu u S.2.2.2.2 A c B e L ∧ vx_2 tv tc tm S A c B e L ∧ (¬ vx_isl A ∧ ¬ vx_isl B) ∧ vx_c2 S A B (u.1 29 3) L r.length) ∧ ((pc = 4 ∧ vw_D tv tc tm S p A c B e L ∧ nn = 3) ∨ (pc = 68 ∧ (vw_D tv tc tm S p A c B e L ∧ vw_ne S A c B e) ∧ nn = 2) ∨ (pc = 142 ∧ (((∀ (j : Nat) (m : Int) (F : rf_N), A = rf_n j 3 m F .leaf → S.2.2.2.1 m = none) ∧ ∀ (j : Nat) (m : Int) (F : rf_N), B = rf_n j 3 m F .leaf → S.2.2.2.1 m = none) ∧ ∃ A0 c0 B0 e0 wa wb, vw_D tv tc tm S p A0 c0 B0 e0 L ∧ vw_ne S A0 c0 B0 e0 ∧ vw_wy S wa A0 A ∧ vw_wy S wb B0 B) ∧ nn = 1)))) hsL (e := eX6_step) rfl ?_ ?_
  · refine w_dv_st0 (G := fun t => ∃ (A : rf_N) (c : List (Int × Int)) (B : rf_N) (e : List (Int × Int)) (L : Int), (dv_G tv tc n0 Qs t S PR tm [((A, dv_lk c), (B, dv_lk e), L)] r ∧ dv_cu t S.2.2.2.2 A c B e L ∧ vx_2 tv tc tm S A c B e L ∧ (¬ vx_isl A ∧ ¬ vx_isl B) ∧ vx_c2 S A B (t.1 29 3) L r.length) ∧ vw_D tv tc tm S p A c B e L) (fun K' hK' => ?_) (fun t ⟨A, c, B, e, L, ht, hD⟩ => ⟨3, rfl, A, c, B, e, L, ht, Or.inl ⟨rfl, hD, rfl⟩⟩)
    exact c_dv_tp (tv := tv) (tc := tc) (tm := tm) hsL (d + 1) (by omega) S p r s K' g1 g5 g6' g7 (by omega) (by omega) (fun u A c B e L u1 u2 u3 u4 u5 u6 u7 u8 u9 => hK' u ⟨A, c, B, e, L, ⟨dv_G_tp hG u1 u2 u3 u4 u8, u5, u6, u7, vx_c2_rd u8 u9.1 u9.2.1 g7c⟩, fun _ => ⟨u8, u6, u7.1, u7.2⟩⟩)
  · rintro nn pc ls u ⟨rfl, A, c, B, e, L, ⟨hGu, hcu, h2, ⟨nA, nB⟩, hc2⟩, ⟨rfl, hD, rfl⟩ | ⟨rfl, ⟨hD, hne⟩, rfl⟩ | ⟨rfl, ⟨⟨stA, stB⟩, A0, c0, B0, e0, wa, wb, hD, hne, hwa, hwb⟩, rfl⟩⟩
    · obtain ⟨y1, y2, _⟩ := hGu trivial
      obtain ⟨⟨a1, a2⟩, ⟨a3, a4⟩, a5⟩ := hcu trivial
      obtain ⟨lt, t, s1, s2⟩ := h2 trivial
      obtain ⟨⟨i1, ⟨j, k, h, F, rfl⟩, t1⟩, _⟩ := s1 trivial
      obtain ⟨⟨i2, ⟨j', k', h', F', rfl⟩, t2⟩, _⟩ := s2 trivial
      obtain ⟨_, _, q3, q4, _, q6, q7, _, _, q10⟩ := dv_at_hd a1
      obtain ⟨_, _, q3', q4', _, q6', q7', _, _, q10'⟩ := dv_at_hd a3
      have hk0 : k ≠ 0 := fun q => nA ⟨j, h, F, by rw [q]⟩
      obtain ⟨q11, q12⟩ := q7 hk0
      have hp := dv_pow4 q12
      have hQ4 : vw_ne S (rf_n j k h F .leaf) c (rf_n j' k' h' F' .leaf) e → ∃ m', m' < 3 ∧ (([(0, .inr (.inl 38))] : sx_L) = [(0, .inr (.inl 38))] ∧ ∃ (A : rf_N) (c : List (Int × Int)) (B : rf_N) (e : List (Int × Int)) (L : Int), ((dv_G tv tc n0 Qs u S PR tm [((A, dv_lk c), (B, dv_lk e), L)] r ∧ dv_cu u S.2.2.2.2 A c B e L ∧ vx_2 tv tc tm S A c B e L ∧ (¬ vx_isl A ∧ ¬ vx_isl B) ∧ vx_c2 S A B (u.1 29 3) L r.length) ∧ ((68 = 4 ∧ vw_D tv tc tm S p A c B e L ∧ m' = 3) ∨ (68 = 68 ∧ (vw_D tv tc tm S p A c B e L ∧ vw_ne S A c B e) ∧ m' = 2) ∨ (68 = 142 ∧ (((∀ (j : Nat) (m : Int) (F : rf_N), A = rf_n j 3 m F .leaf → S.2.2.2.1 m = none) ∧ ∀ (j : Nat) (m : Int) (F : rf_N), B = rf_n j 3 m F .leaf → S.2.2.2.1 m = none) ∧ ∃ A0 c0 B0 e0 wa wb, vw_D tv tc tm S p A0 c0 B0 e0 L ∧ vw_ne S A0 c0 B0 e0 ∧ vw_wy S wa A0 A ∧ vw_wy S wb B0 B) ∧ m' = 1)))) := fun hne => ⟨2, by omega, rfl, _, c, _, e, L, ⟨hGu, hcu, h2, ⟨nA, nB⟩, hc2⟩, Or.inr (Or.inl ⟨rfl, ⟨hD, hne⟩, rfl⟩)⟩
      have len : k = 3 → k' = 3 → h = h' → rf_len F' = rf_len F ∧ (S.2.2.2.2 j) = dz_hs F ∧ (S.2.2.2.2 j') = dz_hs F' := fun e1 e2 e3 => by
        subst e1 e2 e3
        have l1 := vx_in_len i1
        have l2 := vx_in_len i2
        have r1 := (q10 rfl).1
        have r2 := (q10' rfl).1
        rw [r1, dz_hs_len] at l1
        rw [r2, dz_hs_len] at l2
        exact ⟨by omega, r1, r2⟩
      refine w_dv_st4 (P := fun z => (0 ≤ z ∧ z < ((2 ^ rf_len F : Nat) : Int)) ∧ ∀ i : Nat, i < rf_len F → dv_tb z i = decide (dv_lk c ((dz_hs F).getD i (-1)) = dv_lk e ((dz_hs F').getD i (-1)))) (al := ((2 ^ rf_len F : Nat) : Int) - 1) (c_dv_isu hsL (d + 1) (by omega)) (c_dz_head hsL (d + 1) (by omega)) (fun e1 e2 e3 K' hK' => ?_) (fun _ K' hK' => ?_) (fun kp hkp => ?_) y1 (dv_at_z a1) (dv_at_z a3) (by omega) (fun e1 e2 e3 hP => ?_) (fun hn => hQ4 (fun j1 j1' m1 F1 F1' w1 w2 w3 => ?_))
      · rw [q3] at e1
        rw [q3'] at e2
        rw [q4, q4'] at e3
        exact c_dv_eqa hsL (d + 1) (by omega) F F' c e _ _ u K' y1 (dv_at_z a1) (dv_at_z a3) q6 q6' q11 q12 (len e1 e2 e3).1 a2 (Int.le_refl _) a4 (Int.le_refl _) (fun z z0 z1 z2 => hK' z ⟨⟨z0, z1⟩, z2⟩)
      · exact c_dv_ala hsL (d + 1) (by omega) _ (rf_len F) u K' y1 (dv_at_z a1) q11 q12 hK'
      · have := hkp.1
        omega
      · rw [q3] at e1
        rw [q3'] at e2
        rw [q4, q4'] at e3
        obtain ⟨ll, r1, r2⟩ := len e1 e2 e3
        subst e1 e2 e3
        obtain ⟨z1, z2, z3, z4, z5, z6, z7⟩ := hGu trivial
        refine hK1 u S PR tm r (vx_le_refl S) (fun _ => ⟨z1, z2, z3, z4, z5, z6, ?_⟩) (fun _ => ⟨_, _, _, _, _, hD, Or.inl ⟨rfl, vx_l2_refl S⟩⟩)
        refine vx_J_same (j := j) (j' := j') (F := F) (F' := F') (u := h) (L := L) z7 (List.ext_getElem? (fun i => ?_))
        by_cases hi : i < rf_len F
        · have c1 := hP.2 i hi
          rw [dv_tb_all (by omega) (by omega), decide_eq_true hi] at c1
          have c2 := of_decide_eq_true c1.symm
          have h1 : i < (dz_hs F).length := by rw [dz_hs_len]; exact hi
          have h2' : i < (dz_hs F').length := by rw [dz_hs_len]; omega
          rw [vx_gD h1, vx_gD h2'] at c2
          rw [r1, r2, List.getElem?_map, List.getElem?_map, List.getElem?_eq_getElem h1, List.getElem?_eq_getElem h2']
          show some _ = some _
          rw [c2]
        · rw [List.getElem?_eq_none (by rw [List.length_map, r1, dz_hs_len]; omega), List.getElem?_eq_none (by rw [List.length_map, r2, dz_hs_len]; omega)]
      · injection w1 with w4 w5
        obtain ⟨e1, e2⟩ := Prod.mk.inj w5
        injection w2 with w6 w7
        obtain ⟨e3, e4⟩ := Prod.mk.inj w7
        have ee : h = h' := e2.trans e4.symm
        obtain ⟨kp, ⟨hk1, hk2⟩, hk3⟩ := hn (by rw [q3, e1]) (by rw [q3', e3]) (by rw [q4, q4', ee])
        obtain ⟨ll, r1, r2⟩ := len e1 e3 ee
        rw [← w4, ← w6, r1, r2] at w3
        refine hk3 (dv_tb_eq hk1.1 (by omega) (by omega) (by omega) (fun i hi => ?_))
        rw [dv_tb_all (by omega) hi]
        by_cases hl : i < rf_len F
        · rw [decide_eq_true hl, hk2 i hl]
          have h1 : i < (dz_hs F).length := by rw [dz_hs_len]; exact hl
          have h2' : i < (dz_hs F').length := by rw [dz_hs_len]; omega
          rw [vx_gD h1, vx_gD h2']
          have c1 := congrArg (fun l => l[i]?) w3
          try dsimp only at c1
          rw [List.getElem?_map, List.getElem?_map, List.getElem?_eq_getElem h1, List.getElem?_eq_getElem h2'] at c1
          exact decide_eq_true (Option.some.inj c1)
        · rw [decide_eq_false hl]
          exact dv_tb_hi hk1.2 (by omega)
    · obtain ⟨y1, y2, y3, y4, y5, y6, y7⟩ := hGu trivial
      obtain ⟨⟨a1, a2⟩, ⟨a3, a4⟩, a5⟩ := hcu trivial
      obtain ⟨lt, ty, s1, s2⟩ := h2 trivial
      have h29 := y1.fld 29 3 (by decide) rfl
      have fu1 : ∀ t, cx_F [(29, 33)] u t → cx_F [(29, 33), (38, 38)] u (sx_uf (sx_uf t.1 38 8 (t.1 33 7)) 38 9 (t.1 33 8), t.2) := fun t ht => cx_F_uf rfl (cx_F_uf rfl (cx_F_step ht rfl (cx_F_refl _ _)))
      refine w_dv_st68 (G1 := fun t => ∃ A' c', cx_I t ∧ cx_F [(29, 33)] u t ∧ dv_lf u t ∧ (∀ k, k ≠ 7 → k ≠ 8 → t.1 33 k = u.1 33 k) ∧ dv_at t S.2.2.2.2 A' (t.1 33 7) ∧ dv_c t c' (t.1 29 3) (t.1 33 8) ∧ vx_sd tv tc tm S lt L ty A' c' ∧ (vx_c2 S A' B (t.1 29 3) L r.length ∧ ∃ w, vw_wy S w A A') ∧ (∀ th, vx_So S th → vx_val th S.2.2.2.2 A (dv_lk c) L = vx_val th S.2.2.2.2 A' (dv_lk c') L) ∧ (∀ (j : Nat) (m : Int) (F : rf_N), A' = rf_n j 3 m F .leaf → S.2.2.2.1 m = none)) (G2 := fun t t' => ∃ A' c' B' e', (cx_I t ∧ cx_F [(29, 33)] u t ∧ dv_lf u t ∧ (∀ k, k ≠ 7 → k ≠ 8 → t.1 33 k = u.1 33 k) ∧ dv_at t S.2.2.2.2 A' (t.1 33 7) ∧ dv_c t c' (t.1 29 3) (t.1 33 8) ∧ vx_sd tv tc tm S lt L ty A' c' ∧ (vx_c2 S A' B (t.1 29 3) L r.length ∧ ∃ w, vw_wy S w A A') ∧ (∀ th, vx_So S th → vx_val th S.2.2.2.2 A (dv_lk c) L = vx_val th S.2.2.2.2 A' (dv_lk c') L) ∧ (∀ (j : Nat) (m : Int) (F : rf_N), A' = rf_n j 3 m F .leaf → S.2.2.2.1 m = none)) ∧ cx_I t' ∧ cx_F [(29, 33)] (sx_uf (sx_uf t.1 38 8 (t.1 33 7)) 38 9 (t.1 33 8), t.2) t' ∧ dv_lf (sx_uf (sx_uf t.1 38 8 (t.1 33 7)) 38 9 (t.1 33 8), t.2) t' ∧ (∀ k, k ≠ 7 → k ≠ 8 → t'.1 33 k = t.1 33 k) ∧ dv_at t' S.2.2.2.2 B' (t'.1 33 7) ∧ dv_c t' e' (t'.1 29 3) (t'.1 33 8) ∧ vx_sd tv tc tm S lt L ty B' e' ∧ (vx_c2 S A' B' (t'.1 29 3) L r.length ∧ ∃ w, vw_wy S w B B') ∧ (∀ th, vx_So S th → vx_val th S.2.2.2.2 B (dv_lk e) L = vx_val th S.2.2.2.2 B' (dv_lk e') L) ∧ (∀ (j : Nat) (m : Int) (F : rf_N), B' = rf_n j 3 m F .leaf → S.2.2.2.1 m = none)) (c_dv_anode hsL (d + 1) (by omega)) (c_dv_achain hsL (d + 1) (by omega)) (fun K' hK' => ?_) (fun t ⟨A', c', t1, t2, t3, t4, t5, t6, t7, t8, t9, t10⟩ iU K' hK' => ?_) (fun t ⟨_, _, h, _⟩ => h) (fun t t' ⟨_, _, _, _, _, h, _⟩ => h) y1 (fun t t' _ ⟨A', c', B', e', ⟨t1, t2, t3, t4, t5, t6, t7, t8, t9, t10⟩, w1, w2, w3, w4, w5, w6, w7, w8, w9, w10⟩ iU1 iU2 => ?_)
      · exact c_dv_sl hsL (d + 1) (by omega) S PR lt L ty A c (fun A' u' => vx_c2 S A' B u' L r.length ∧ ∃ w, vw_wy S w A A') _ _ u K' y1 y2 y3 y4 a1 a2 s1 ⟨hc2, [], rfl⟩ (fun j m F X e' v v' h1 h2' h3 h4 => ⟨vx_c2_l y4 h2' h3 h4 h1.1, by obtain ⟨w, hw⟩ := h1.2; exact ⟨w ++ [m], vw_wy_snoc h3 hw⟩⟩) (fun A' v h1 => by have := (vx_c2_bd hrk W g4 h1.1).1; omega) (fun t A' c' t1 t2 t3 t4 t5 t6 t7 t8 t9 t10 => hK' t ⟨A', c', t1, t2, t3, t4, t5, t6, t7, t8, t9, t10⟩)
      · have hF := fu1 t t2
        have nf : dv_nf (u.1 11 6) S.2.2.2.2 S.2.2.2.2 u (sx_uf (sx_uf t.1 38 8 (t.1 33 7)) 38 9 (t.1 33 8), t.2) := dv_nf_F _ hF (by decide)
        have hM : dv_M (sx_uf (sx_uf t.1 38 8 (t.1 33 7)) 38 9 (t.1 33 8), t.2) S PR := dv_M_fr (Int.le_refl _) (by rw [(hF.same 11 rfl).1]) nf (t4 6 (by decide) (by decide)) (hF.same 34 rfl).2 (hF.same 35 rfl).2 (hF.same 36 rfl).2 (hF.same 37 rfl).2 y2
        have e38 : t.1 38 = u.1 38 := (t2.same 38 rfl).1
        refine c_dv_sl hsL (d + 1) (by omega) S PR lt L ty B e (fun B' u' => vx_c2 S A' B' u' L r.length ∧ ∃ w, vw_wy S w B B') _ _ (sx_uf (sx_uf t.1 38 8 (t.1 33 7)) 38 9 (t.1 33 8), t.2) K' iU hM y3 y4 (by rw [e38]; exact dv_at_fr (Int.le_refl _) nf a3) ?_ s2 ⟨t8.1, [], rfl⟩ (fun j m F X e' v v' h1 h2' h3 h4 => ⟨vx_c2_r y4 h2' h3 h4 h1.1, by obtain ⟨w, hw⟩ := h1.2; exact ⟨w ++ [m], vw_wy_snoc h3 hw⟩⟩) (fun B' v h1 => by have := (vx_c2_bd hrk W g4 h1.1).1; omega) (fun t' B' e' w1 w2 w3 w4 w5 w6 w7 w8 w9 w10 => hK' t' ⟨A', c', B', e', ⟨t1, t2, t3, t4, t5, t6, t7, t8, t9, t10⟩, w1, w2, w3, w4, w5, w6, w7, w8, w9, w10⟩)
        rw [e38]
        exact dv_ch_hi (t3 trivial).1 (dv_ch_fr (t3 trivial).2 a4)
      · have hF1 := fu1 t t2
        have e38 : t.1 38 = u.1 38 := (t2.same 38 rfl).1
        have e38' : ∀ k, k ≠ 8 → k ≠ 9 → t'.1 38 k = u.1 38 k := fun k h8 h9 => by
          rw [(w2.same 38 rfl).1]
          show sx_uf (sx_uf t.1 38 8 (t.1 33 7)) 38 9 (t.1 33 8) 38 k = _
          rw [sx_uf_if, if_neg (by omega), sx_uf_if, if_neg (by omega), e38]
        have p8 : t'.1 38 8 = t.1 33 7 := by
          rw [(w2.same 38 rfl).1]
          show sx_uf (sx_uf t.1 38 8 (t.1 33 7)) 38 9 (t.1 33 8) 38 8 = _
          rw [sx_uf_if, if_neg (by omega), px_us]
        have p9 : t'.1 38 9 = t.1 33 8 := by
          rw [(w2.same 38 rfl).1]
          show sx_uf (sx_uf t.1 38 8 (t.1 33 7)) 38 9 (t.1 33 8) 38 9 = _
          exact px_us _ _ _ _
        have hF2 : cx_F [(29, 33), (38, 38), (46, 54)] u (sx_uf (sx_uf t'.1 38 10 (t'.1 33 7)) 38 11 (t'.1 33 8), t'.2) := cx_F_uf rfl (cx_F_uf rfl (cx_F_step w2 rfl (cx_F_step hF1 rfl (cx_F_refl _ _))))
        have lf2 : dv_lf t t' := fun _ => w3 trivial
        have lfu : dv_lf u (sx_uf (sx_uf t'.1 38 10 (t'.1 33 7)) 38 11 (t'.1 33 8), t'.2) := fun _ => (dv_lf_t t3 lf2) trivial
        have nf2 : dv_nf (t.1 11 6) S.2.2.2.2 S.2.2.2.2 t (sx_uf (sx_uf t'.1 38 10 (t'.1 33 7)) 38 11 (t'.1 33 8), t'.2) := fun _ => ⟨fun _ => ⟨by show t.1 11 6 ≤ t'.1 11 6; rw [(w2.same 11 rfl).1]; exact Int.le_refl _, fun i _ => by
          show t'.2.1 12 i = _ ∧ t'.2.1 13 i = _ ∧ t'.2.1 14 i = _ ∧ t'.2.1 15 i = _ ∧ t'.2.1 16 i = _
          rw [(w2.same 12 rfl).2, (w2.same 13 rfl).2, (w2.same 14 rfl).2, (w2.same 15 rfl).2, (w2.same 16 rfl).2]
          exact ⟨rfl, rfl, rfl, rfl, rfl⟩⟩, fun _ _ => rfl⟩
        have nf3 : dv_nf (t'.1 11 6) S.2.2.2.2 S.2.2.2.2 t' (sx_uf (sx_uf t'.1 38 10 (t'.1 33 7)) 38 11 (t'.1 33 8), t'.2) := fun _ => ⟨fun _ => ⟨Int.le_refl _, fun i _ => ⟨rfl, rfl, rfl, rfl, rfl⟩⟩, fun _ _ => rfl⟩
        have h2' : vx_2 tv tc tm S A' c' B' e' L := fun _ => ⟨lt, ty, t7, w7⟩
        have h2a : vx_2 tv tc tm S A' c' B e L := fun _ => ⟨lt, ty, t7, s2⟩
        have nA' : ¬ vx_isl A' := fun q => nB ((vx_2_lam h2a).mp q)
        obtain ⟨wa, hwa⟩ := t8.2
        obtain ⟨wb, hwb⟩ := w8.2
        refine ⟨1, by omega, rfl, A', c', B', e', L, ⟨dv_G_F hGu iU2 hF2 (by show t'.1 33 6 = u.1 33 6; rw [w4 6 (by decide) (by decide)]; exact t4 6 (by decide) (by decide)) lfu (dv_G_rep hGu (fun th hS => ?_)), fun _ => ⟨⟨?_, ?_⟩, ⟨?_, ?_⟩, ?_⟩, h2', ⟨nA', fun q => nA' ((vx_2_lam h2').mpr q)⟩, w8.1⟩, Or.inr (Or.inr ⟨rfl, ⟨⟨t10, w10⟩, A, c, B, e, wa, wb, hD, hne, hwa, hwb⟩, rfl⟩)⟩
        · show vx_val th S.2.2.2.2 A (dv_lk c) L = vx_val th S.2.2.2.2 B (dv_lk e) L ↔ vx_val th S.2.2.2.2 A' (dv_lk c') L = vx_val th S.2.2.2.2 B' (dv_lk e') L
          rw [t9 th hS, w9 th hS]
        · show dv_at _ S.2.2.2.2 A' (t'.1 38 8)
          rw [p8]
          exact dv_at_fr (Int.le_refl _) nf2 t5
        · show dv_c t' c' (t'.1 29 3) (t'.1 38 9)
          rw [p9]
          exact dv_ch_hi (lf2 trivial).1 (dv_c_lf lf2 (Int.le_refl _) t6)
        · exact dv_at_fr (Int.le_refl _) nf3 w5
        · exact w6
        · show t'.1 38 12 = L
          rw [e38' 12 (by decide) (by decide)]
          exact a5
    · obtain ⟨y1, y2, y3, y4, ⟨y5, y5'⟩, y6, y7⟩ := hGu trivial
      obtain ⟨⟨a1, a2⟩, ⟨a3, a4⟩, a5⟩ := hcu trivial
      obtain ⟨lt, ty, s1, s2⟩ := h2 trivial
      obtain ⟨⟨i1, ⟨j, k, h, F, rfl⟩, t1⟩, _⟩ := s1 trivial
      obtain ⟨⟨i2, ⟨j', k', h', F', rfl⟩, t2⟩, _⟩ := s2 trivial
      obtain ⟨_, _, q3, q4, _, q6, q7, q8, q9, _⟩ := dv_at_hd a1
      obtain ⟨_, _, q3', q4', _, q6', q7', q8', q9', _⟩ := dv_at_hd a3
      have hk0 : k ≠ 0 := fun q => nA ⟨j, h, F, by rw [q]⟩
      have hk0' : k' ≠ 0 := fun q => nB ⟨j', h', F', by rw [q]⟩
      obtain ⟨c1, c2, c3⟩ := vx_c2_bd hrk W g4 hc2
      refine w_dv_st142 (Gm := fun t => ∃ S' PR' tm', vx_l2 (fun _ => False) S S' ∧ dv_G tv tc n0 Qs t S' PR' tm' [] r) (Gg := fun z t => (z = 0 ∧ cx_I t ∧ vx_NO n0 Qs S) ∨ (z = 1 ∧ ∃ S' PR' tm', vx_l2 (fun C => C = rf_n j' k' h' F' .leaf) S S' ∧ dv_G tv tc n0 Qs t S' PR' tm' [] r)) (Gh := fun z t => (z = 0 ∧ cx_I t ∧ vx_NO n0 Qs S) ∨ (z = 1 ∧ ∃ S' PR' tm', vx_l2 (fun C => C = rf_n j k h F .leaf) S S' ∧ dv_G tv tc n0 Qs t S' PR' tm' [] r)) (Gt := fun z t => (z = 0 ∧ cx_I t ∧ vx_NO n0 Qs S) ∨ (z = 1 ∧ ∃ r', dv_G tv tc n0 Qs t S PR tm [] r' ∧ (k ≠ 3 ∧ k' ≠ 3) ∧ rf_len F = rf_len F' ∧ r' = dv_zp F F' c e L (u.1 29 3) ++ r)) (c_dv_isu hsL (d + 1) (by omega)) (c_dz_head hsL (d + 1) (by omega)) (c_dv_sw hsL (d + 1) (by omega)) (fun e1 e2 e3 K' hK' => ?_) (fun e1 e2 K' hK' => ?_) (fun e1 e2 hI2 K' hK' => ?_) (fun e1 e2 K' hK' => ?_) ⟨fun z t ht => ?_, fun z t ht => ?_, fun z t ht => ?_⟩ y1 (dv_at_z a1) (dv_at_z a3) (fun _ _ _ t ⟨S', PR', tm', h1, h2'⟩ => hK1 t S' PR' tm' r h1.1 h2' (fun _ => ⟨A0, c0, B0, e0, L, hD, Or.inl ⟨rfl, vx_l2_im (fun _ q => q.elim) h1⟩⟩)) (fun _ _ z t ht => ?_) (fun _ _ z t ht => ?_) (fun _ _ z t ht => ?_)
      · rw [q3] at e1
        rw [q3'] at e2
        rw [q4, q4'] at e3
        subst e1 e2 e3
        exact c_dv_me hsL (d + 1) (by omega) hQ S PR tm r j j' h F F' c e L u K' hGu hcu h2 (stA j h F rfl) (fun t S' PR' tm' h1 h2' => hK' t ⟨S', PR', tm', h1, h2'⟩)
      · rw [q3] at e1
        rw [q3', q4, q4'] at e2
        subst e1
        obtain ⟨bs, hb1, hb2⟩ := vx_c1_0 hrk W g4 hc2
        exact c_dv_gv hsL (d + 1) (by omega) hQ S PR tm r j h F _ c e L bs u K' hGu hcu h2 (stA j h F rfl) (fun j1 m1 F1 e => by
          have e3 := e
          injection e3 with _ e4
          obtain ⟨e5, e6⟩ := Prod.mk.inj e4
          exact ⟨fun q => e2 e5 (by rw [e6, q]), stB j1 m1 F1 e⟩) hb1 hb2 (fun t h1 _ h3 => hK' 0 t (Or.inl ⟨rfl, h1, h3⟩)) (fun t S' PR' tm' h1 h2' => hK' 1 t (Or.inr ⟨rfl, S', PR', tm', h1, h2'⟩))
      · rw [q3] at e1
        rw [q3'] at e2
        subst e2
        obtain ⟨bs, hb1, hb2⟩ := vx_c1_1 hrk W g4 hc2
        have hFs : cx_F [(29, 33), (38, 38), (46, 54)] u (sx_uf (sx_uf (sx_uf (sx_uf u.1 38 8 (u.1 38 10)) 38 10 (u.1 38 8)) 38 9 (u.1 38 11)) 38 11 (u.1 38 9), u.2) := cx_F_uf rfl (cx_F_uf rfl (cx_F_uf rfl (cx_F_uf rfl (cx_F_refl _ _))))
        have nf : dv_nf (u.1 11 6) S.2.2.2.2 S.2.2.2.2 u (sx_uf (sx_uf (sx_uf (sx_uf u.1 38 8 (u.1 38 10)) 38 10 (u.1 38 8)) 38 9 (u.1 38 11)) 38 11 (u.1 38 9), u.2) := dv_nf_F _ hFs (by decide)
        have hGs := dv_G_F (ps' := [((rf_n j' 3 h' F' .leaf, dv_lk e), (rf_n j k h F .leaf, dv_lk c), L)]) hGu hI2 hFs rfl (fun _ => ⟨Int.le_refl _, fun _ _ => ⟨rfl, rfl, rfl⟩⟩) (dv_G_rep hGu (fun th _ => ⟨fun q => Eq.symm q, fun q => Eq.symm q⟩))
        exact c_dv_gv hsL (d + 1) (by omega) hQ S PR tm r j' h' F' _ e c L bs (sx_uf (sx_uf (sx_uf (sx_uf u.1 38 8 (u.1 38 10)) 38 10 (u.1 38 8)) 38 9 (u.1 38 11)) 38 11 (u.1 38 9), u.2) K' hGs (fun _ => ⟨⟨dv_at_fr (Int.le_refl _) nf a3, a4⟩, ⟨dv_at_fr (Int.le_refl _) nf a1, a2⟩, a5⟩) (fun _ => ⟨lt, ty, s2, s1⟩) (stB j' h' F' rfl) (fun j1 m1 F1 e => by
          injection e with _ e4
          exact absurd (Prod.mk.inj e4).1 e1) hb1 hb2 (fun t h1 _ h3 => hK' 0 t (Or.inl ⟨rfl, h1, h3⟩)) (fun t S' PR' tm' h1 h2' => hK' 1 t (Or.inr ⟨rfl, S', PR', tm', h1, h2'⟩))
      · rw [q3] at e1
        rw [q3'] at e2
        obtain ⟨q11, q12⟩ := q7 hk0
        have no : (∀ th, vx_So S th → ¬ vx_pe th S.2.2.2.2 ((rf_n j k h F .leaf, dv_lk c), (rf_n j' k' h' F' .leaf, dv_lk e), L)) → vx_NO n0 Qs S := fun hn => vx_J_no y7 hQ hn
        have row : ∀ th, vx_So S th → (vx_pe th S.2.2.2.2 ((rf_n j k h F .leaf, dv_lk c), (rf_n j' k' h' F' .leaf, dv_lk e), L) ↔ k = k' ∧ (if k = 2 then dv_lk c h else h) = (if k' = 2 then dv_lk e h' else h') ∧ vx_val th S.2.2.2.2 F (dv_lk c) L = vx_val th S.2.2.2.2 F' (dv_lk e) L) := fun th _ => vx_eq_rig hk0 e1 hk0' e2
        refine c_dv_ta hsL (d + 1) (by omega) S.2.2.2.2 r c e L j k h F j' k' h' F' u K' y1 hcu (by omega) (by omega) y5 y5' (by omega) (fun hn => hK' 0 u (Or.inl ⟨rfl, y1, no (fun th hS hp => ?_)⟩)) (fun f1 f2 f3 f4 t t1' t2' t3' t4' => hK' 1 t (Or.inr ⟨rfl, dv_zp F F' c e L (u.1 29 3) ++ r, fun _ => ⟨t1', ?_, y3, y4, ⟨t3', ?_⟩, ?_, ?_⟩, ⟨e1, e2⟩, f2, rfl⟩))
        · obtain ⟨p1, p2, p3⟩ := (row th hS).mp hp
          have p4 := (vx_eq_row (fun m => (hS.1 m).1)).mp p3
          rw [vx_el_len, vx_el_len] at p4
          rcases hn with hn | hn | ⟨hn, hn'⟩ | ⟨hn, hn'⟩
          · exact hn p1
          · exact hn p4.1
          · rw [if_pos hn, if_pos (by omega)] at p2
            exact hn' p2
          · rw [if_neg hn, if_neg (by omega)] at p2
            exact hn' p2
        · have nf : dv_nf (u.1 11 6) S.2.2.2.2 S.2.2.2.2 u t := dv_nf_F _ t2' (by decide)
          exact dv_M_fr (Int.le_refl _) (by rw [(t2'.same 11 rfl).1]) nf (by rw [(t2'.same 33 rfl).1]) (t2'.same 34 rfl).2 (t2'.same 35 rfl).2 (t2'.same 36 rfl).2 (t2'.same 37 rfl).2 y2
        · rw [List.length_append, dv_zp_len f2, t4']
          omega
        · have tt : ∃ uu, (vx_ty tv tc tm S.2.2.2.2 F).2 uu ∧ (vx_ty tv tc tm S.2.2.2.2 F').2 uu := by
            rcases t1 with ⟨w, _⟩ | ⟨w, _, w1⟩ | ⟨w, _, w1⟩ | ⟨w, _⟩
            · exact absurd w hk0
            · rcases t2 with ⟨w', _⟩ | ⟨w', _, w1'⟩ | ⟨w', _, w1'⟩ | ⟨w', _⟩
              · exact absurd w' hk0'
              · have w' : k = 1 := w
                have e5 : h = h' := f4 (by omega)
                have w1'' : (vx_ty tv tc tm S.2.2.2.2 F').2 (tc h') := w1'
                rw [← e5] at w1''
                exact ⟨_, w1, w1''⟩
              · have wa : k = 1 := w
                have wb : k' = 2 := w'
                omega
              · exact absurd w' e2
            · rcases t2 with ⟨w', _⟩ | ⟨w', _, w1'⟩ | ⟨w', _, w1'⟩ | ⟨w', _⟩
              · exact absurd w' hk0'
              · have wa : k = 2 := w
                have wb : k' = 1 := w'
                omega
              · have wa : k = 2 := w
                have wb : k' = 2 := w'
                subst wa wb
                obtain ⟨_, z2⟩ := vx_sd_var s1
                obtain ⟨_, z2'⟩ := vx_sd_var s2
                have w1'' : (vx_ty tv tc tm S.2.2.2.2 F').2 (tv h') := w1'
                rw [z2', ← f3 rfl, ← z2] at w1''
                exact ⟨_, w1, w1''⟩
              · exact absurd w' e2
            · exact absurd w e1
          obtain ⟨uu, tF, tF'⟩ := tt
          exact dv_es_zp hk0 e1 hk0' e2 y6 q12 s1 s2 tF tF' hc2
        · show vx_J S n0 Qs ((dv_zp F F' c e L (u.1 29 3) ++ r).map dv_pe)
          rw [List.map_append]
          refine vx_J_rep y7 (fun th hS => ?_)
          rw [row th hS]
          have er := vx_eq_row (AR := S.2.2.2.2) (fun m => (hS.1 m).1) (e := dv_lk c) (d := dv_lk e) (L := L) (F := F) (F' := F')
          rw [er, vx_el_len, vx_el_len]
          constructor
          · rintro ⟨_, _, _, hh⟩ q hq
            obtain ⟨w, w1, rfl⟩ := List.mem_map.mp hq
            obtain ⟨i, w2, w3⟩ := List.getElem_of_mem w1
            have w4 : (dv_zp F F' c e L (u.1 29 3))[i]? = some w := by rw [List.getElem?_eq_getElem w2, w3]
            rw [dv_zp_len f2] at w2
            have z1 : i < (vx_el F).length := by rw [vx_el_len]; exact w2
            have z2 : i < (vx_el F').length := by rw [vx_el_len]; omega
            have w5 := dv_zp_at (c := c) (d := e) (L := L) (mk := u.1 29 3) (List.getElem?_eq_getElem z1) (List.getElem?_eq_getElem z2)
            rw [w5] at w4
            rw [← Option.some.inj w4]
            exact hh i _ _ (List.getElem?_eq_getElem z1) (List.getElem?_eq_getElem z2)
          · intro hh
            refine ⟨f1, ?_, f2, fun i A B eA eB => ?_⟩
            · by_cases q : k = 2
              · rw [if_pos q, if_pos (by omega)]
                exact f3 q
              · rw [if_neg q, if_neg (by omega)]
                exact f4 q
            · have w5 := dv_zp_at (c := c) (d := e) (L := L) (mk := u.1 29 3) eA eB
              exact hh _ (List.mem_map_of_mem (List.mem_of_getElem? w5))
      · rcases ht with ⟨q, _⟩ | ⟨q, _⟩
        · exact Or.inl q
        · exact Or.inr q
      · rcases ht with ⟨q, _⟩ | ⟨q, _⟩
        · exact Or.inl q
        · exact Or.inr q
      · rcases ht with ⟨q, _⟩ | ⟨q, _⟩
        · exact Or.inl q
        · exact Or.inr q
      · rcases ht with ⟨rfl, h1, h3⟩ | ⟨rfl, S', PR', tm', h1, h3⟩
        · exact hK0 t h1 h3
        · exact hK1 t S' PR' tm' r h1.1 h3 (fun _ => ⟨A0, c0, B0, e0, L, hD, Or.inl ⟨rfl, vx_l2_im (fun C q => ⟨wb, Or.inr (by rw [q]; exact hwb)⟩) h1⟩⟩)
      · rcases ht with ⟨rfl, h1, h3⟩ | ⟨rfl, S', PR', tm', h1, h3⟩
        · exact hK0 t h1 h3
        · exact hK1 t S' PR' tm' r h1.1 h3 (fun _ => ⟨A0, c0, B0, e0, L, hD, Or.inl ⟨rfl, vx_l2_im (fun C q => ⟨wa, Or.inl (by rw [q]; exact hwa)⟩) h1⟩⟩)
      · rcases ht with ⟨rfl, h1, h3⟩ | ⟨rfl, r', h3, ⟨n3, n3'⟩, ln, rr⟩
        · exact hK0 t h1 h3
        · exact hK1 t S PR tm r' (vx_le_refl S) h3 (fun _ => ⟨A0, c0, B0, e0, L, hD, Or.inr ⟨rfl, hne, wa, wb, j, k, h, F, j', k', h', F', c, e, _, hwa, hwb, ⟨hk0, n3, hk0', n3'⟩, ln, rr⟩⟩)
