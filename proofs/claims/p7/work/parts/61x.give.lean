/-! ===== an unknown is given a term ===== -/
theorem c_dv_gv {tv tc : Int → rf_T} {n0 : Int} {Qs : (Int → rf_N) → Prop} {sL : Nat} {sx : Nat → Int32} (hsL : sL ≤ 3072) (d : Nat) (hd : 8 ≤ d) (hQ : ∀ th th', vx_ag n0 th th' → Qs th → Qs th') : ∀ (S : vx_S) (PR : Int → List (Int × Int)) (tm : Int → Int → rf_T) (r : List dv_E) (j : Nat) (sf : Int) (F B : rf_N) (c e : List (Int × Int)) (L : Int) (bs : Nat) (s : sx_S) (K : Int → sx_S → Prop), dv_G tv tc n0 Qs s S PR tm [((rf_n j 3 sf F .leaf, dv_lk c), (B, dv_lk e), L)] r → dv_cu s S.2.2.2.2 (rf_n j 3 sf F .leaf) c B e L → vx_2 tv tc tm S (rf_n j 3 sf F .leaf) c B e L → S.2.2.2.1 sf = none → (∀ (j' : Nat) (m : Int) (F' : rf_N), B = rf_n j' 3 m F' .leaf → m ≠ sf ∧ S.2.2.2.1 m = none) → bs ≤ 385 → vx_c1 S bs B (s.1 29 3) L 0 → (∀ u, cx_I u → cx_F [(11, 17), (29, 38), (46, 54)] s u → vx_NO n0 Qs S → K 0 u) → (∀ u S' PR' tm', vx_l2 (fun C => C = B) S S' → dv_G tv tc n0 Qs u S' PR' tm' [] r → K 1 u) → sx_C sL sx d 79 [.inr (.inl 38)] s K := by
  intro S PR tm r j sf F B c e L bs s K hG hcu h2 hsf hBs hbs hc1 hK0 hK1
  obtain ⟨g1, g2, g3, g4, ⟨g5, g6⟩, g7, g8⟩ := hG trivial
  obtain ⟨⟨W, B1, Sc, rk, hrk⟩, _⟩ := g3 trivial
  obtain ⟨⟨M1, M2, M3, M5⟩, M4⟩ := g2 trivial
  obtain ⟨⟨a1, a2⟩, ⟨a3, a4⟩, a5⟩ := hcu trivial
  obtain ⟨lt, t, s1, s2⟩ := h2 trivial
  obtain ⟨⟨i1, _, t1⟩, _, ⟨L0, ckL⟩, _⟩ := s1 trivial
  obtain ⟨⟨i2, sgB, t2⟩, _⟩ := s2 trivial
  obtain ⟨x0, x1⟩ := i1.1 sf (Or.inl ⟨rfl, rfl⟩)
  have l1 := vx_in_len i1
  have xp := vx_sd_open hsf l1 s1
  obtain ⟨_, _, _, q4, _, q6, q7, _, _, q10⟩ := dv_at_hd a1
  obtain ⟨q11, q12⟩ := q7 (by decide)
  obtain ⟨q13, q14, q15⟩ := q10 rfl
  have lF : (S.2.2.2.2 j).length = rf_len F := by rw [q13, dz_hs_len]
  have lX : ((S.2.2.2.2 j).map (dv_lk c)).length = rf_len F := by rw [List.length_map, lF]
  have gX : ∀ i, i < rf_len F → ((S.2.2.2.2 j).map (dv_lk c)).getD i (-1) = dv_lk c ((dz_hs F).getD i (-1)) := fun i hi => by
    rw [q13, vx_getD_map _ _ _ (by rw [dz_hs_len]; exact hi)]
  obtain ⟨b1, b2, b3, b4⟩ := vx_c1_bd hrk W g4 hbs hc1
  obtain ⟨_, _, hBh, _⟩ := hc1 trivial
  have n0S : n0 ≤ S.1 := g8.2.2.1
  have h29 := g1.fld 29 3 (by decide) rfl
  obtain ⟨d, rfl⟩ : ∃ e, d = e + 2 := ⟨d - 2, by omega⟩
  refine sx_methL (wr := true) (n := 400) (n' := 400) (stop := [(34, [0, 1]), (137, [0, 1, 2]), (191, [0, 2])]) (fun nn pc ls u => (pc = 34 ∧ ∃ x1 : Nat, ls = [(0, .inr (.inl 38)), (1, .inl (x1 : Int))] ∧ cx_I u ∧ cx_F [(38, 38), (53, 54)] s u ∧ (u.1 38 7 = sf ∧ ∀ k, k ≠ 7 → u.1 38 k = s.1 38 k) ∧ (∀ i : Nat, i < 32 → u.2.1 53 i = 31) ∧ (∀ i : Nat, i < 4 → u.2.1 54 i = if i < x1 then ((S.2.2.2.2 j).map (dv_lk c)).getD i (-1) else -1) ∧ x1 ≤ rf_len F ∧ nn = 300000 + (rf_len F - x1)) ∨ (pc = 137 ∧ ∃ (x1 : Int) (x2 : Nat), ls = [(0, .inr (.inl 38)), (1, .inl x1), (2, .inl (x2 : Int))] ∧ ((x1 = 0 ∧ cx_I u ∧ cx_F [(11, 17), (29, 38), (46, 54)] s u ∧ vx_NO n0 Qs S ∧ (x2 < 1000000 ∧ u.1 38 7 = sf) ∧ nn = 1000) ∨ (x1 = 1 ∧ ∃ S' PR' tm' ws v, dv_WK tv tc n0 Qs ((rf_n j 3 sf F .leaf, dv_lk c), (B, dv_lk e), L) (B, dv_lk e) r sf L (fun v => L ≤ v ∨ (0 ≤ v ∧ v ∈ (S.2.2.2.2 j).map (dv_lk c))) bs (s.1 29 3) c e u S' PR' tm' [] ws ∧ dv_RT (B, dv_lk e) S' (ws.map dv_kf) ∧ (cx_I v ∧ cx_F [(38, 38), (46, 54)] s v ∧ ∀ k, k ≠ 7 → v.1 38 k = s.1 38 k) ∧ dv_WF (s.1 29 3) v u S S' ∧ (∀ i : Nat, i < 4 → v.2.1 54 i = ((S.2.2.2.2 j).map (dv_lk c)).getD i (-1)) ∧ dv_ms u ws + x2 ≤ 200000 ∧ nn = 1000 + dv_ms u ws))) ∨ (pc = 191 ∧ ∃ x2 : Nat, ls = [(0, .inr (.inl 38)), (2, .inl (x2 : Int))] ∧ ∃ S' PR' tm' v w, dv_WK tv tc n0 Qs ((rf_n j 3 sf F .leaf, dv_lk c), (B, dv_lk e), L) (B, dv_lk e) r sf L (fun v => L ≤ v ∨ (0 ≤ v ∧ v ∈ (S.2.2.2.2 j).map (dv_lk c))) bs (s.1 29 3) c e v S' PR' tm' [] [] ∧ (cx_I w ∧ cx_F [(38, 38), (46, 54)] s w ∧ ∀ k, k ≠ 7 → w.1 38 k = s.1 38 k) ∧ dv_WF (s.1 29 3) w v S S' ∧ (∀ i : Nat, i < 4 → w.2.1 54 i = ((S.2.2.2.2 j).map (dv_lk c)).getD i (-1)) ∧ cx_I u ∧ cx_F [(33, 37)] v u ∧ dv_gm sf (s.1 38 10) (dv_gp e 0 (((S.2.2.2.2 j).map (dv_lk c)).take x2)) v u ∧ x2 ≤ rf_len F ∧ nn = rf_len F - x2)) hsL (e := eX6_give) rfl ?_ ?_
  · refine w_dv_gv (c_dz_head hsL (d + 1) (by omega)) (c_dv_fill53 hsL (d + 1) (by omega)) (c_dv_fill54 hsL (d + 1) (by omega)) g1 (dv_at_z a1) (fun t u1 u2 u3 u4 u5 => ?_)
    rw [q4] at u3
    exact ⟨_, Or.inl ⟨rfl, 0, rfl, u1, u2, u3, u4, fun i hi => by rw [if_neg (by omega)]; exact u5 i hi, by omega, rfl⟩⟩
  · rintro nn pc ls u (⟨rfl, x1, rfl, j1, j2, ⟨j3, j4⟩, j5, j6, j7, rfl⟩ | ⟨rfl, x1, x2, rfl, ⟨rfl, j1, j2, j3, j4, rfl⟩ | ⟨rfl, S', PR', tm', ws, v, j1, j2, ⟨j3, j4, j5⟩, j6, j7, j8, rfl⟩⟩ | ⟨rfl, x2, rfl, S', PR', tm', v, w, j1, ⟨j2, j3, j4⟩, j5, j6, j7, j8, j9, j10, rfl⟩)
    · have f : ∀ q, q < 38 → u.1 q = s.1 q ∧ u.2.1 q = s.2.1 q := fun q hq => (j2 q).1 (by
        show cx_out [(38, 38), (53, 54)] q
        simp [cx_out]
        omega)
      have e8 := j4 8 (by decide)
      have e9 := j4 9 (by decide)
      have e10 := j4 10 (by decide)
      have e11 := j4 11 (by decide)
      have e12 := j4 12 (by decide)
      have k11 : u.1 11 = s.1 11 := (f 11 (by decide)).1
      have k29 : u.1 29 = s.1 29 := (f 29 (by decide)).1
      have nf : dv_nf (s.1 11 6) S.2.2.2.2 S.2.2.2.2 s u := dv_nf_F _ j2 (by decide)
      have lk : ∀ i : Nat, u.2.1 30 i = s.2.1 30 i ∧ u.2.1 31 i = s.2.1 31 i ∧ u.2.1 32 i = s.2.1 32 i := fun i => by
        rw [(f 30 (by decide)).2, (f 31 (by decide)).2, (f 32 (by decide)).2]
        exact ⟨rfl, rfl, rfl⟩
      have z8 : 0 ≤ u.1 38 8 ∧ u.1 38 8 < u.1 11 6 := by
        rw [e8, k11]
        exact dv_at_z a1
      have n16 : u.2.1 16 (u.1 38 8).toNat = (rf_len F : Int) := by rw [e8, (f 16 (by decide)).2]; exact q11
      have hFu : dz_nd u F (u.2.1 14 (u.1 38 8).toNat) := by
        rw [e8, (f 14 (by decide)).2]
        exact dz_nd_fr q6 (nf trivial).1 (fun i hi => rf_nd_lt q6 i hi)
      have hcu : dv_c u c (u.1 29 3) (u.1 38 9) := by
        rw [k29, e9]
        exact dv_ch_fr (fun i _ => lk i) a2
      have heu : dv_c u e (u.1 29 3) (u.1 38 11) := by
        rw [k29, e11]
        exact dv_ch_fr (fun i _ => lk i) a4
      by_cases hx : x1 < rf_len F
      · obtain ⟨w, hw⟩ := dv_drx x1 hFu
        obtain ⟨w1, w2⟩ := dv_nth hx hw
        have r13 := j1.arr 13 (by decide) rfl w.toNat
        refine w_dv_gv34y (w := w) (lv := dv_lk c ((dz_hs F).getD x1 (-1))) (c_dz_arity hsL (d + 1) (by omega)) (c_dz_head hsL (d + 1) (by omega)) (fun K' hK' => ?_) (fun K' hK' => ?_) j1 z8 (by rw [n16]; omega) w1 (dv_lk_rng j1 hcu _) (fun hI2 => ?_)
        · refine c_dz_arg hsL (d + 1) (by omega) _ _ F _ _ j1 z8 (by omega) hFu (fun z _ q => ?_)
          rw [Int.toNat_natCast] at q
          rw [dv_nd1 q hw]
          exact hK'
        · rw [w2] at r13 ⊢
          exact c_dv_of hsL (d + 1) (by omega) _ _ _ c _ _ j1 r13 hcu (Int.le_refl _) hK'
        · refine ⟨300000 + (rf_len F - (x1 + 1)), by omega, Or.inl ⟨rfl, x1 + 1, rfl, hI2, cx_F_ua rfl j2, ⟨j3, j4⟩, fun i hi => ?_, fun i hi => ?_, by omega, rfl⟩⟩
          · show sx_ua u.2.1 54 ((x1 : Int)).toNat (dv_lk c ((dz_hs F).getD x1 (-1))) 53 i = 31
            rw [sx_ua_ne (by decide)]
            exact j5 i hi
          · show sx_ua u.2.1 54 ((x1 : Int)).toNat (dv_lk c ((dz_hs F).getD x1 (-1))) 54 i = _
            rw [sx_ua_same]
            dsimp only
            rw [Int.toNat_natCast]
            by_cases q : i = x1
            · rw [if_pos q, if_pos (by omega), q, gX x1 hx]
            · rw [if_neg q, j6 i hi]
              by_cases q' : i < x1
              · rw [if_pos q', if_pos (by omega)]
              · rw [if_neg q', if_neg (by omega)]
      · have hx' : x1 = rf_len F := by omega
        refine w_dv_gv34n (c_dz_arity hsL (d + 1) (by omega)) (c_dv_pclear46 hsL (d + 1) (by omega)) (c_dv_mark hsL (d + 1) (by omega)) (c_dv_push46 hsL (d + 1) (by omega)) j1 z8 (by rw [n16]; omega) (fun t0 t y1 y2 y3 y4 y5 y6 => ?_)
        obtain ⟨p1, p2, p3, p4, p5, p6, p7, p8⟩ := y6 trivial
        have i0 : (t0.1 46 6).toNat = 0 := by omega
        rw [i0] at p3 p4 p5 p6 p7 p8
        have hFt : cx_F [(38, 38), (46, 54)] s t := cx_F_step y5 rfl (cx_F_step y2 rfl (cx_F_step j2 rfl (cx_F_refl _ _)))
        have c38 : t0.1 38 = u.1 38 := (y2.same 38 rfl).1
        have c29 : t0.1 29 = u.1 29 := (y2.same 29 rfl).1
        have d38 : t.1 38 = u.1 38 := by rw [(y5.same 38 rfl).1, c38]
        have d29 : t.1 29 3 = s.1 29 3 := by rw [(y5.same 29 rfl).1, c29, k29]
        have e53 : t.2.1 53 = u.2.1 53 := by rw [(y5.same 53 rfl).2, (y2.same 53 rfl).2]
        have e54 : t.2.1 54 = u.2.1 54 := by rw [(y5.same 54 rfl).2, (y2.same 54 rfl).2]
        have nft : dv_nf (s.1 11 6) S.2.2.2.2 S.2.2.2.2 s t := dv_nf_F _ hFt (by decide)
        have lkt : ∀ i : Nat, t.2.1 30 i = s.2.1 30 i ∧ t.2.1 31 i = s.2.1 31 i ∧ t.2.1 32 i = s.2.1 32 i := fun i => by
          rw [(hFt.same 30 rfl).2, (hFt.same 31 rfl).2, (hFt.same 32 rfl).2]
          exact ⟨rfl, rfl, rfl⟩
        have pst : dv_ps t S.2.2.2.2 (s.1 29 3) r := dv_ps_fr (Int.le_refl _) nft (fun i _ => lkt i) (fun i _ => by
          rw [(hFt.same 40 rfl).2, (hFt.same 41 rfl).2, (hFt.same 42 rfl).2, (hFt.same 43 rfl).2, (hFt.same 44 rfl).2, (hFt.same 45 rfl).2]
          exact ⟨rfl, rfl, rfl, rfl, rfl, rfl⟩) g5
        have own : ∀ i : Nat, i < 4 → t.2.1 54 i = ((S.2.2.2.2 j).map (dv_lk c)).getD i (-1) := fun i hi => by
          rw [e54, j6 i hi]
          by_cases q : i < x1
          · rw [if_pos q]
          · rw [if_neg q, List.getD_eq_getElem?_getD, List.getElem?_eq_none (by omega)]
            rfl
        have fal : ∀ v, dv_al t v ↔ (L ≤ v ∨ (0 ≤ v ∧ v ∈ (S.2.2.2.2 j).map (dv_lk c))) := fun v => by
          unfold dv_al
          rw [d38, e12, a5]
          refine or_congr Iff.rfl (and_congr_right (fun v0 => ⟨fun ⟨i, hi, he⟩ => ?_, fun hm => ?_⟩))
          · rw [own i hi] at he
            by_cases q : i < ((S.2.2.2.2 j).map (dv_lk c)).length
            · rw [vx_gD q] at he
              rw [← he]
              exact List.getElem_mem q
            · rw [List.getD_eq_getElem?_getD, List.getElem?_eq_none (by omega)] at he
              have he' : (-1 : Int) = v := he
              omega
          · obtain ⟨i, h1, h2⟩ := List.getElem_of_mem hm
            refine ⟨i, by omega, ?_⟩
            rw [own i (by omega), vx_gD h1]
            exact h2
        have esn : dv_sn t = fun _ => False := by
          funext m
          unfold dv_sn
          refine propext ⟨fun h => ?_, fun h => h.elim⟩
          exact h.2 (by rw [e53]; exact j5 m.toNat (by have := h.1; omega))
        have hcs : dv_cs t = 160 := by
          unfold dv_cs
          have := vx_sm_cg (f := fun m => dv_cd (t.2.1 53 m.toNat)) (g := fun _ => 5) (n := 32) (fun i hi => by
            try dsimp only
            rw [e53, Int.toNat_natCast, j5 i hi]
            decide)
          rw [this]
          decide
        have hms : dv_ms t [((B, e), L, s.1 29 3)] = vx_hz B + 164000 := by
          unfold dv_ms
          rw [hcs]
          show vx_hz B + 0 + 1025 * 160 = _
          omega
        have hGt : dv_G tv tc n0 Qs t S PR tm [((rf_n j 3 sf F .leaf, dv_lk c), (B, dv_lk e), L)] r := dv_G_F hG y4 (cx_F_step hFt rfl (cx_F_refl _ _)) (by rw [(hFt.same 33 rfl).1]) (fun _ => ⟨by omega, fun i _ => lkt i⟩) g8
        have hWK : dv_WK tv tc n0 Qs ((rf_n j 3 sf F .leaf, dv_lk c), (B, dv_lk e), L) (B, dv_lk e) r sf L (fun v => L ≤ v ∨ (0 ≤ v ∧ v ∈ (S.2.2.2.2 j).map (dv_lk c))) bs (s.1 29 3) c e t S PR tm [] [((B, e), L, s.1 29 3)] := fun _ => ⟨hGt, ⟨⟨⟨by show s.1 29 3 ≤ t.1 29 3; omega, h29.1⟩, ⟨by
          show dv_at t S.2.2.2.2 B (t.2.1 47 0)
          rw [p3]
          show dv_at t S.2.2.2.2 B (t0.1 38 10)
          rw [c38, e10]
          exact dv_at_fr (Int.le_refl _) nft a3, by
          show dv_c t e (s.1 29 3) (t.2.1 48 0)
          rw [p4]
          show dv_c t e (s.1 29 3) (t0.1 38 11)
          rw [c38, e11]
          exact dv_ch_fr (fun i _ => lkt i) a4⟩, ⟨by
          show t.2.1 51 0 = L
          rw [p7]
          show t0.1 38 12 = L
          rw [c38, e12]
          exact a5, by
          show t.2.1 52 0 = s.1 29 3
          rw [p8]
          show t0.1 29 3 = s.1 29 3
          rw [c29, k29]⟩, trivial⟩, by
          show t.1 46 6 = ((1 : Nat) : Int)
          omega⟩, ⟨by rw [d38]; exact j3, by rw [d38, e12]; exact a5, L0, fal⟩, fun m hm => by rw [e53, j5 m hm]; omega, ⟨by rw [esn]; exact vx_H_0, vx_Kn_0 (fun x hx => Or.inr ⟨by
            obtain ⟨y, y1', y2'⟩ := List.mem_map.mp hx
            rw [← y2']
            exact xp y y1', hx⟩) (fun x hx => Or.inl hx)⟩, ⟨⟨⟨lt, _, s2⟩, Int.le_refl _, hc1⟩, trivial⟩, ⟨hsf, x0, ⟨i2, i1, i2⟩, fun _ h => absurd h List.not_mem_nil⟩, hbs, by omega, fun k hk => by rw [List.mem_singleton.mp hk]; exact Int.le_refl _, pst, h2⟩
        refine ⟨1000 + dv_ms t [((B, e), L, s.1 29 3)], by rw [hms]; omega, Or.inr (Or.inl ⟨rfl, 1, 0, rfl, Or.inr ⟨rfl, S, PR, tm, _, t, hWK, fun j1' m1 F1 e1 => Or.inr ⟨rfl, (hBs j1' m1 F1 e1).2⟩, ⟨y4, hFt, fun k hk => by rw [d38]; exact j4 k hk⟩, fun _ => ⟨cx_F_refl _ _, fun _ => ⟨by omega, fun _ _ => ⟨rfl, rfl, rfl⟩⟩, vx_l2_refl S, dv_nf_refl _ _ _, ⟨by rw [(hFt.same 11 rfl).1]; exact M2, by rw [(hFt.same 11 rfl).1]; exact M2⟩, rfl⟩, own, by rw [hms]; omega, rfl⟩⟩)⟩
    · exact w_dv_gv137 (G := fun _ _ => False) (c_dv_pempty46 hsL (d + 1) (by omega)) (c_dv_bind hsL (d + 1) (by omega)) (fun _ q => absurd rfl q) (fun _ _ h => h.elim) j1 (Or.inl rfl) (by omega) (by rw [j4.2]; omega) (fun _ => hK0 u j1 j2 j3) (fun q => absurd q (by decide)) (fun q => absurd q (by decide))
    · obtain ⟨hGu, ⟨w1, w2⟩, ⟨f7, f12, _, fal⟩, _⟩ := j1 trivial
      obtain ⟨z1, _⟩ := hGu trivial
      obtain ⟨_, _, v3, v4, _, _⟩ := j6 trivial
      have h38 : u.1 38 = v.1 38 := ((j6 trivial).1.same 38 rfl).1
      have hrs : ∀ (j' : Nat) (F' : rf_N), B ≠ rf_n j' 3 sf F' .leaf := fun j' F' q => (hBs j' sf F' q).1 rfl
      cases ws with
      | nil =>
        have w2' : u.1 46 6 = 0 := w2
        refine w_dv_gv137 (G := fun _ _ => False) (c_dv_pempty46 hsL (d + 1) (by omega)) (c_dv_bind hsL (d + 1) (by omega)) (fun q => absurd w2' q) (fun _ _ h => h.elim) z1 (Or.inr rfl) (by omega) (by rw [f7]; omega) (fun q => absurd q (by decide)) (fun _ q => absurd w2' q) (fun _ _ hI2 => ?_)
        have e10 : u.1 38 10 = s.1 38 10 := by rw [h38]; exact j5 10 (by decide)
        refine ⟨rf_len F, by omega, Or.inr (Or.inr ⟨rfl, 0, rfl, S', PR', tm', u, v, j1, ⟨j3, j4, j5⟩, j6, j7, hI2, cx_F_ua rfl (cx_F_ua rfl (cx_F_refl _ _)), fun _ => ⟨rfl, fun i => ?_, fun _ => ⟨?_, by show 0 ≤ 4; omega, fun i q hq => ?_⟩, fun i hi => ?_, fun i _ => ⟨?_, ?_⟩⟩, by omega, rfl⟩)⟩
        · show sx_ua (sx_ua u.2.1 34 (u.1 38 7).toNat (u.1 38 10)) 35 (u.1 38 7).toNat 0 34 i = _
          rw [sx_ua_ne (by decide), sx_ua_same, f7, e10]
        · show sx_ua (sx_ua u.2.1 34 (u.1 38 7).toNat (u.1 38 10)) 35 (u.1 38 7).toNat 0 35 sf.toNat = _
          rw [sx_ua_same, f7]
          dsimp only
          rw [if_pos rfl]
          rfl
        · have hq' : ([] : List (Int × Int))[i]? = some q := hq
          simp at hq'
        · show sx_ua (sx_ua u.2.1 34 (u.1 38 7).toNat (u.1 38 10)) 35 (u.1 38 7).toNat 0 35 i = _
          rw [sx_ua_same, f7]
          dsimp only
          rw [if_neg hi, sx_ua_ne (by decide)]
        · show sx_ua (sx_ua u.2.1 34 (u.1 38 7).toNat (u.1 38 10)) 35 (u.1 38 7).toNat 0 36 i = _
          rw [sx_ua_ne (by decide), sx_ua_ne (by decide)]
        · show sx_ua (sx_ua u.2.1 34 (u.1 38 7).toNat (u.1 38 10)) 35 (u.1 38 7).toNat 0 37 i = _
          rw [sx_ua_ne (by decide), sx_ua_ne (by decide)]
      | cons k ws =>
        have w2' : u.1 46 6 = (ws.length : Int) + 1 := w2
        refine w_dv_gv137 (G := fun z t => (z = 0 ∧ cx_I t ∧ cx_F [(11, 17), (29, 37), (46, 54)] u t ∧ vx_NO n0 Qs S') ∨ (z = 1 ∧ ∃ S'' PR'' tm'' ws'', dv_WK tv tc n0 Qs ((rf_n j 3 sf F .leaf, dv_lk c), (B, dv_lk e), L) (B, dv_lk e) r sf L (fun v => L ≤ v ∨ (0 ≤ v ∧ v ∈ (S.2.2.2.2 j).map (dv_lk c))) bs (s.1 29 3) c e t S'' PR'' tm'' [] ws'' ∧ dv_RT (B, dv_lk e) S'' (ws''.map dv_kf) ∧ dv_WF (s.1 29 3) u t S' S'' ∧ dv_ms t ws'' < dv_ms u (k :: ws))) (c_dv_pempty46 hsL (d + 1) (by omega)) (c_dv_bind hsL (d + 1) (by omega)) (fun _ _ K' hK' => ?_) (fun z t ht => ?_) z1 (Or.inr rfl) (by omega) (by rw [f7]; omega) (fun q => absurd q (by decide)) (fun _ _ z t ht => ?_) (fun _ q => absurd q (by omega))
        · exact c_dv_fs hsL (d + 1) (by omega) hQ rfl hrs S' PR' tm' k ws u K' j1 j2 (fun t b1' b2' b3' => hK' 0 t (Or.inl ⟨rfl, b1', b2', b3'⟩)) (fun t S'' PR'' tm'' ws'' b1' b2' b3' b4' => hK' 1 t (Or.inr ⟨rfl, S'', PR'', tm'', ws'', b1', b2', b3', b4'⟩))
        · rcases ht with ⟨q, _⟩ | ⟨q, _⟩
          · exact Or.inl q
          · exact Or.inr q
        · rcases ht with ⟨rfl, b1', b2', b3'⟩ | ⟨rfl, S'', PR'', tm'', ws'', b1', b2', b3', b4'⟩
          · refine ⟨1000, ?_, Or.inr (Or.inl ⟨rfl, 0, x2 + 1, rfl, Or.inl ⟨rfl, b1', cx_F_step b2' rfl (cx_F_step (j6 trivial).1 rfl (cx_F_step j4 rfl (cx_F_refl _ _))), vx_NO_le v3.1 n0S b3', ⟨by omega, by rw [(b2'.same 38 rfl).1]; exact f7⟩, rfl⟩⟩)⟩
            have : 0 < dv_ms u (k :: ws) := by
              have sg : 1 ≤ vx_hz k.1.1 := by
                obtain ⟨_, _, _, _, _, ⟨⟨⟨lt', ty', hs'⟩, _⟩, _⟩, _⟩ := j1 trivial
                obtain ⟨⟨_, ⟨ja, ka, ha, Fa, ea⟩, _⟩, _⟩ := hs' trivial
                rw [ea, vx_hz_in]
                split <;> omega
              unfold dv_ms
              show 0 < vx_hz k.1.1 + dv_hz ws + _
              omega
            omega
          · exact ⟨1000 + dv_ms t ws'', by omega, Or.inr (Or.inl ⟨rfl, 1, x2 + 1, rfl, Or.inr ⟨rfl, S'', PR'', tm'', ws'', v, b1', b2', ⟨j3, j4, j5⟩, dv_WF_t j6 b3', j7, by omega, rfl⟩⟩)⟩
    · obtain ⟨hGv, _, ⟨f7, f12, _, fal⟩, _⟩ := j1 trivial
      obtain ⟨z1, gM, _⟩ := hGv trivial
      obtain ⟨v1, v2, v3, v4, ⟨v5, v6⟩, v7⟩ := j5 trivial
      have w11 : w.1 11 6 = s.1 11 6 := by rw [(j3.same 11 rfl).1]
      have h38 : ∀ k, k ≠ 7 → u.1 38 k = s.1 38 k := fun k hk => by
        rw [(j8.same 38 rfl).1, (v1.same 38 rfl).1]
        exact j4 k hk
      have u7 : u.1 38 7 = sf := by rw [(j8.same 38 rfl).1]; exact f7
      have u11 : u.1 11 6 = v.1 11 6 := by rw [(j8.same 11 rfl).1]
      have hle2 := v3.1.1.2
      have za := dv_at_z a1
      have e8 := h38 8 (by decide)
      have z8 : 0 ≤ u.1 38 8 ∧ u.1 38 8 < u.1 11 6 := by
        rw [e8, u11]
        omega
      have n16 : u.2.1 16 (u.1 38 8).toNat = (rf_len F : Int) := by
        rw [e8, (j8.same 16 rfl).2, ((v4 trivial).1 trivial).2 (s.1 38 8).toNat (by omega) |>.2.2.2.2, (j3.same 16 rfl).2]
        exact q11
      have o54 : ∀ i : Nat, i < 4 → u.2.1 54 i = ((S.2.2.2.2 j).map (dv_lk c)).getD i (-1) := fun i hi => by
        rw [(j8.same 54 rfl).2, v7]
        exact j6 i hi
      have lku : ∀ i : Nat, (i : Int) < s.1 29 3 → u.2.1 30 i = s.2.1 30 i ∧ u.2.1 31 i = s.2.1 31 i ∧ u.2.1 32 i = s.2.1 32 i := fun i hi => by
        obtain ⟨l1', l2', l3'⟩ := (v2 trivial).2 i hi
        rw [(j8.same 30 rfl).2, (j8.same 31 rfl).2, (j8.same 32 rfl).2, l1', l2', l3', (j3.same 30 rfl).2, (j3.same 31 rfl).2, (j3.same 32 rfl).2]
        exact ⟨rfl, rfl, rfl⟩
      have u29 : s.1 29 3 ≤ u.1 29 3 := by
        rw [(j8.same 29 rfl).1]
        exact (v2 trivial).1
      have heu : dv_c u e (s.1 29 3) (u.1 38 11) := by
        rw [h38 11 (by decide)]
        exact dv_ch_fr lku a4
      have rva : ∀ y : Int, -2147483648 ≤ dv_va e y ∧ dv_va e y ≤ 2147483647 := by
        intro y
        have key : ∀ (e' : List (Int × Int)) (hi k : Int), dv_c u e' hi k → -2147483648 ≤ dv_va e' y ∧ dv_va e' y ≤ 2147483647 := by
          intro e'
          induction e' with
          | nil => exact fun _ _ _ => ⟨by show (-2147483648 : Int) ≤ -1; omega, by show (-1 : Int) ≤ 2147483647; omega⟩
          | cons p0 r0 ih =>
            intro hi k hc
            obtain ⟨_, ⟨h1, _⟩, h3⟩ := hc
            rw [dv_va_c]
            by_cases q : p0.2 = y
            · rw [if_pos q, ← h1]
              exact j7.arr 30 (by decide) rfl k.toNat
            · rw [if_neg q]
              exact ih _ _ h3
        exact key e _ _ heu
      have ry := j7.arr 54 (by decide) rfl ((x2 : Int)).toNat
      obtain ⟨m1, m2, m3, m4, m5⟩ := j9 trivial
      obtain ⟨r1, r2, r3⟩ := m3 trivial
      have gl := dv_gp_len (e := e) (l := ((S.2.2.2.2 j).map (dv_lk c)).take x2) (i := 0)
      have tl : (((S.2.2.2.2 j).map (dv_lk c)).take x2).length = x2 := by
        rw [List.length_take]
        omega
      by_cases hx : x2 < rf_len F
      · obtain ⟨y, ey⟩ : ∃ y, ((S.2.2.2.2 j).map (dv_lk c))[x2]? = some y := ⟨_, List.getElem?_eq_getElem (by omega)⟩
        have oy : u.2.1 54 ((x2 : Int)).toNat = y := by
          rw [Int.toNat_natCast, o54 x2 (by omega), List.getD_eq_getElem?_getD, ey]
          rfl
        have tk : ((S.2.2.2.2 j).map (dv_lk c)).take (x2 + 1) = ((S.2.2.2.2 j).map (dv_lk c)).take x2 ++ [y] := by
          rw [List.take_succ, ey]
          rfl
        refine w_dv_gv191 (v := dv_va e y) (c_dz_arity hsL (d + 1) (by omega)) (c_dv_addP hsL (d + 1) (by omega)) (fun _ K' hK' => ?_) j7 z8 (by rw [n16]; omega) (by rw [u7]; omega) (rva y) (by rw [u7, r1]; omega) (fun q => absurd q (by rw [n16]; omega)) (fun _ hn => ?_) (fun _ h1 h2' hI2 => ?_)
        · rw [oy] at ry ⊢
          exact c_dv_va hsL (d + 1) (by omega) _ _ _ e _ _ j7 ry heu u29 hK'
        · rw [oy] at hn
          refine ⟨rf_len F - (x2 + 1), by omega, Or.inr (Or.inr ⟨rfl, x2 + 1, rfl, S', PR', tm', v, w, j1, ⟨j2, j3, j4⟩, j5, j6, j7, j8, ?_, by omega, rfl⟩)⟩
          rw [tk, dv_gp_snoc, if_neg (by omega), List.append_nil]
          exact j9
        · rw [oy] at h1
          refine ⟨rf_len F - (x2 + 1), by omega, Or.inr (Or.inr ⟨rfl, x2 + 1, rfl, S', PR', tm', v, w, j1, ⟨j2, j3, j4⟩, j5, j6, hI2, cx_F_ua rfl (cx_F_ua rfl (cx_F_ua rfl j8)), ?_, by omega, rfl⟩)⟩
          rw [tk, dv_gp_snoc, if_pos ⟨h1, h2'⟩, Nat.zero_add, tl, u7]
          generalize hPg : dv_gp e 0 (((S.2.2.2.2 j).map (dv_lk c)).take x2) = Pg at *
          have hix : (sf * 4 + u.2.1 35 sf.toNat).toNat = sf.toNat * 4 + Pg.length := by
            rw [r1]
            omega
          rw [hix]
          refine fun _ => ⟨m1, fun i => ?_, fun _ => ⟨?_, ?_, fun i q hq => ?_⟩, fun i hi => ?_, fun i hi => ⟨?_, ?_⟩⟩
          · show sx_ua (sx_ua (sx_ua u.2.1 36 (sf.toNat * 4 + Pg.length) (dv_va e y)) 37 (sf.toNat * 4 + Pg.length) (x2 : Int)) 35 sf.toNat (u.2.1 35 sf.toNat + 1) 34 i = _
            rw [sx_ua_ne (by decide), sx_ua_ne (by decide), sx_ua_ne (by decide)]
            exact m2 i
          · show sx_ua (sx_ua (sx_ua u.2.1 36 (sf.toNat * 4 + Pg.length) (dv_va e y)) 37 (sf.toNat * 4 + Pg.length) (x2 : Int)) 35 sf.toNat (u.2.1 35 sf.toNat + 1) 35 sf.toNat = _
            rw [sx_ua_same]
            dsimp only
            rw [if_pos rfl, r1, List.length_append]
            simp
          · rw [List.length_append]
            show _ + 1 ≤ 4
            omega
          · show sx_ua (sx_ua (sx_ua u.2.1 36 (sf.toNat * 4 + Pg.length) (dv_va e y)) 37 (sf.toNat * 4 + Pg.length) (x2 : Int)) 35 sf.toNat (u.2.1 35 sf.toNat + 1) 36 (sf * 4 + (i : Int)).toNat = _ ∧ sx_ua (sx_ua (sx_ua u.2.1 36 (sf.toNat * 4 + Pg.length) (dv_va e y)) 37 (sf.toNat * 4 + Pg.length) (x2 : Int)) 35 sf.toNat (u.2.1 35 sf.toNat + 1) 37 (sf * 4 + (i : Int)).toNat = _
            have hi : (sf * 4 + (i : Int)).toNat = sf.toNat * 4 + i := by omega
            rw [hi, sx_ua_ne (by decide), sx_ua_ne (by decide), sx_ua_same, sx_ua_ne (by decide), sx_ua_same]
            dsimp only
            by_cases hc : i < Pg.length
            · rw [List.getElem?_append_left hc] at hq
              obtain ⟨d1, d2⟩ := r3 i q hq
              rw [hi] at d1 d2
              rw [if_neg (by omega), if_neg (by omega), sx_ua_ne (by decide)]
              exact ⟨d1, d2⟩
            · rw [List.getElem?_append_right (by omega)] at hq
              have hz : i - Pg.length = 0 := by
                obtain ⟨hlt, _⟩ := List.getElem?_eq_some_iff.mp hq
                simp at hlt
                omega
              rw [hz] at hq
              have hq' : (dv_va e y, (x2 : Int)) = q := by simpa using hq
              have hie : sf.toNat * 4 + i = sf.toNat * 4 + Pg.length := by omega
              rw [if_pos hie, if_pos hie, ← hq']
              exact ⟨rfl, rfl⟩
          · show sx_ua (sx_ua (sx_ua u.2.1 36 (sf.toNat * 4 + Pg.length) (dv_va e y)) 37 (sf.toNat * 4 + Pg.length) (x2 : Int)) 35 sf.toNat (u.2.1 35 sf.toNat + 1) 35 i = _
            rw [sx_ua_same]
            dsimp only
            rw [if_neg hi, sx_ua_ne (by decide), sx_ua_ne (by decide)]
            exact m4 i hi
          · show sx_ua (sx_ua (sx_ua u.2.1 36 (sf.toNat * 4 + Pg.length) (dv_va e y)) 37 (sf.toNat * 4 + Pg.length) (x2 : Int)) 35 sf.toNat (u.2.1 35 sf.toNat + 1) 36 i = _
            rw [sx_ua_ne (by decide), sx_ua_ne (by decide), sx_ua_same]
            dsimp only
            rw [if_neg (by omega)]
            exact (m5 i hi).1
          · show sx_ua (sx_ua (sx_ua u.2.1 36 (sf.toNat * 4 + Pg.length) (dv_va e y)) 37 (sf.toNat * 4 + Pg.length) (x2 : Int)) 35 sf.toNat (u.2.1 35 sf.toNat + 1) 37 i = _
            rw [sx_ua_ne (by decide), sx_ua_same]
            dsimp only
            rw [if_neg (by omega), sx_ua_ne (by decide)]
            exact (m5 i hi).2
      · have hx' : x2 = rf_len F := by omega
        refine w_dv_gv191 (v := dv_va e (u.2.1 54 ((x2 : Int)).toNat)) (c_dz_arity hsL (d + 1) (by omega)) (c_dv_addP hsL (d + 1) (by omega)) (fun _ K' hK' => ?_) j7 z8 (by rw [n16]; omega) (by rw [u7]; omega) (rva _) (by rw [u7, r1]; omega) (fun _ => ?_) (fun q => absurd q (by rw [n16]; omega)) (fun q => absurd q (by rw [n16]; omega))
        · exact c_dv_va hsL (d + 1) (by omega) _ _ _ e _ _ j7 ry heu u29 hK'
        · have eAR : S'.2.2.2.2 j = S.2.2.2.2 j := v3.1.2.2.2 j (i1.2.1 j List.mem_cons_self)
          have tf : ((S.2.2.2.2 j).map (dv_lk c)).take x2 = (S.2.2.2.2 j).map (dv_lk c) := List.take_of_length_le (by omega)
          rw [tf] at j9
          obtain ⟨T, PRT, hleT, hGT⟩ := dv_G_gv (b := s.1 38 10) (t := u) hQ j1 (fun q hq hl => by
            rw [eAR]
            rcases hq with hq | ⟨_, hq⟩
            · omega
            · exact hq) (by rw [eAR]; exact q14) (dv_at_fr (Int.le_refl _) v4 (dv_at_fr (AR := S.2.2.2.2) (by omega) (dv_nf_F (AR := S.2.2.2.2) (w.1 11 6) j3 (by decide)) a3)) hBh j7 j8 (by rw [eAR]; exact j9)
          exact hK1 u T PRT tm' (vx_l2_trans (vx_l2_im (fun _ q => q.elim) v3) hleT) hGT
