/-! ===== the types of the unknowns stay: a step of the walk ===== -/
theorem dx_WK_F {tv tc : Int → rf_T} {n0 : Int} {Qs : (Int → rf_N) → Prop} {p : vx_P} {root : rf_N × (Int → Int)} {r : List dv_E} {sf L : Int} {AL : Int → Prop} {bs : Nat} {mk0 : Int} {cL cR : List (Int × Int)} {s u : sx_S} {S : vx_S} {PR : Int → List (Int × Int)} {tm : Int → Int → rf_T} {cur cur' : List (rf_N × (Int → Int))} {ws ws' : List dv_K} (h : dv_WK tv tc n0 Qs p root r sf L AL bs mk0 cL cR s S PR tm cur ws) (hI : cx_I u) (hF : cx_F [(29, 32), (46, 52)] s u) (hl : dv_lm mk0 s u) (hws : dv_ws u S.2.2.2.2 (u.1 29 3) ws') (h46 : u.1 46 6 = (ws'.length : Int)) (hH : vx_H S sf AL (dv_sn s) (dv_se s) (cur' ++ ws'.map dv_kf) root) (hKn : vx_Kn S AL p root (cur' ++ ws'.map dv_kf)) (hks : dv_ks tv tc tm S bs L ws') (hin : ∀ q ∈ cur', vx_in S q.1) (hm : ∀ k ∈ ws', mk0 ≤ k.2.2) : dv_WK tv tc n0 Qs p root r sf L AL bs mk0 cL cR u S PR tm cur' ws' ∧ dx_WF mk0 s u S S := by
  obtain ⟨v1, v2⟩ := dv_WK_F h hI hF hl hws h46 hH hKn hks hin hm
  exact ⟨v1, dx_WF_mk v2 (dx_v_F hF (by decide))⟩
theorem c_dx_fs {tv tc : Int → rf_T} {n0 : Int} {Qs : (Int → rf_N) → Prop} {p : vx_P} {root : rf_N × (Int → Int)} {r : List dv_E} {sf L : Int} {AL : Int → Prop} {bs : Nat} {mk0 : Int} {cL cR : List (Int × Int)} {j0 : Nat} {F0 : rf_N} {e0 : Int → Int} {sL : Nat} {sx : Nat → Int32} (hsL : sL ≤ 3072) (d : Nat) (hd : 6 ≤ d) (hQ : ∀ th th', vx_ag n0 th th' → Qs th → Qs th') (hpf : p = ((rf_n j0 3 sf F0 .leaf, e0), root, L)) (hrs : ∀ j F, root.1 ≠ rf_n j 3 sf F .leaf) : ∀ (S : vx_S) (PR : Int → List (Int × Int)) (tm : Int → Int → rf_T) (k : dv_K) (ws : List dv_K) (s : sx_S) (K : Int → sx_S → Prop), dv_WK tv tc n0 Qs p root r sf L AL bs mk0 cL cR s S PR tm [] (k :: ws) → dv_RT root S ((k :: ws).map dv_kf) → (∀ u, cx_I u → cx_F [(11, 17), (29, 37), (46, 54)] s u → vx_NO n0 Qs S → K 0 u) → (∀ u S' PR' tm' ws', dx_tm S tm tm' → dv_WK tv tc n0 Qs p root r sf L AL bs mk0 cL cR u S' PR' tm' [] ws' → dv_RT root S' (ws'.map dv_kf) → dx_WF mk0 s u S S' → dv_ms u ws' < dv_ms s (k :: ws) → K 1 u) → sx_C sL sx d 80 [.inr (.inl 38)] s K := by
  intro S PR tm k ws s K hWK hRT hK0 hK1
  obtain ⟨hG, ⟨⟨⟨w1, w2⟩, ⟨w3, w4⟩, ⟨w5, w6⟩, w7⟩, w8⟩, ⟨f7, f12, L0, fal⟩, hse, ⟨hH, hKn⟩, ⟨⟨k1, k2, k3⟩, k4⟩, ⟨o1, o2, ⟨o3, o4, o5⟩, _⟩, hbs, hmk, hmks, hps, _⟩ := hWK trivial
  obtain ⟨g1, g2, g3, g4, ⟨g5, g6⟩, g7, g8⟩ := hG trivial
  obtain ⟨⟨W, B1, Sc, rk, hrk⟩, TS⟩ := g3 trivial
  rw [List.length_cons] at w8
  have en : (s.1 46 6 - 1).toNat = ws.length := by omega
  have n0S : n0 ≤ S.1 := g8.2.2.1
  have mkk := hmks k List.mem_cons_self
  have msk : dv_ms s (k :: ws) = vx_hz k.1.1 + dv_ms s ws := by
    unfold dv_ms
    show vx_hz k.1.1 + dv_hz ws + _ = _
    omega
  obtain ⟨d, rfl⟩ : ∃ e, d = e + 2 := ⟨d - 2, by omega⟩
  refine sx_methL (wr := true) (n := 400) (n' := 400) (stop := [(48, [0, 1, 2, 3, 4]), (168, [0, 1, 2, 3, 4])]) (fun nn pc ls u => (pc = 48 ∧ ∃ (z cc L' : Int) (x4 : Nat) (A : rf_N) (c : List (Int × Int)), ls = [(0, .inr (.inl 38)), (1, .inl z), (2, .inl cc), (3, .inl L'), (4, .inl (x4 : Int))] ∧ dv_WK tv tc n0 Qs p root r sf L AL bs mk0 cL cR u S PR tm [(A, dv_lk c)] ws ∧ dv_RT root S ((A, dv_lk c) :: ws.map dv_kf) ∧ dx_WF mk0 s u S S ∧ u.2.1 53 = s.2.1 53 ∧ dv_at u S.2.2.2.2 A z ∧ dv_c u c (u.1 29 3) cc ∧ (∃ lt t, vx_sd tv tc tm S lt L' t A c) ∧ L ≤ L' ∧ vx_c1 S bs A (u.1 29 3) L' ws.length ∧ vx_hz A ≤ vx_hz k.1.1 ∧ x4 + vx_lh A ≤ 67 ∧ nn = 100 + vx_lh A) ∨ (pc = 168 ∧ ∃ (z cc L' x4 : Int) (j : Nat) (kk h : Int) (F : rf_N) (c : List (Int × Int)) (v : sx_S), ls = [(0, .inr (.inl 38)), (1, .inl z), (2, .inl cc), (3, .inl L'), (4, .inl x4)] ∧ dv_WK tv tc n0 Qs p root r sf L AL bs mk0 cL cR v S PR tm [(rf_n j kk h F .leaf, dv_lk c)] ws ∧ dv_RT root S ((rf_n j kk h F .leaf, dv_lk c) :: ws.map dv_kf) ∧ dx_WF mk0 s v S S ∧ v.2.1 53 = s.2.1 53 ∧ dv_at v S.2.2.2.2 (rf_n j kk h F .leaf) z ∧ dv_c v c (v.1 29 3) cc ∧ (∃ lt t, vx_sd tv tc tm S lt L' t (rf_n j kk h F .leaf) c) ∧ L ≤ L' ∧ vx_c1 S bs (rf_n j kk h F .leaf) (v.1 29 3) L' ws.length ∧ vx_hz (rf_n j kk h F .leaf) ≤ vx_hz k.1.1 ∧ (kk = 1 ∨ kk = 2) ∧ (kk = 2 → AL (dv_lk c h)) ∧ (-1 ≤ x4 ∧ x4 < (rf_len F : Int)) ∧ cx_I u ∧ cx_F [(46, 52)] v u ∧ dv_ws u S.2.2.2.2 (u.1 29 3) ((dv_wz F c L' (v.1 29 3)).drop (x4 + 1).toNat ++ ws) ∧ u.1 46 6 + x4 + 1 = (ws.length : Int) + (rf_len F : Int) ∧ nn = (x4 + 1).toNat)) hsL (e := eX6_fitStep) rfl ?_ ?_
  · refine w_dv_fs (c_dv_pop46 hsL (d + 1) (by omega)) (c_dv_pmark46 hsL (d + 1) (by omega)) (c_dv_rel hsL (d + 1) (by omega)) (c_dv_pnode46 hsL (d + 1) (by omega)) (c_dv_pchain46 hsL (d + 1) (by omega)) (c_dv_plevel46 hsL (d + 1) (by omega)) g1 (by omega) (by rw [en, w6]; omega) (fun u u1 u2 u3 u4 => ?_)
    rw [en] at u4 ⊢
    rw [w6] at u4
    have nf : dv_nf (s.1 11 6) S.2.2.2.2 S.2.2.2.2 s u := dv_nf_F _ u2 (by decide)
    have lk : ∀ i : Nat, u.2.1 30 i = s.2.1 30 i ∧ u.2.1 31 i = s.2.1 31 i ∧ u.2.1 32 i = s.2.1 32 i := fun i => by
      rw [(u2.same 30 rfl).2, (u2.same 31 rfl).2, (u2.same 32 rfl).2]
      exact ⟨rfl, rfl, rfl⟩
    have sws : dv_ws u S.2.2.2.2 (u.1 29 3) ws := by
      rw [u4]
      refine dv_ws_fr (Int.le_refl _) nf (fun i _ => lk i) (fun i _ => ?_) w7
      rw [(u2.same 47 rfl).2, (u2.same 48 rfl).2, (u2.same 51 rfl).2, (u2.same 52 rfl).2]
      exact ⟨rfl, rfl, rfl, rfl⟩
    obtain ⟨lt, ty, k1'⟩ := k1
    obtain ⟨v1, v2⟩ := dx_WK_F (cur' := [dv_kf k]) (ws' := ws) hWK u1 (cx_F_step u2 rfl (cx_F_refl _ _)) (fun _ => ⟨by omega, fun i _ => lk i⟩) sws (by omega) hH hKn k4 (fun q hq => by rw [List.mem_singleton.mp hq]; exact (k1' trivial).1.1) (fun q hq => hmks q (List.mem_cons_of_mem _ hq))
    refine ⟨_, Or.inl ⟨rfl, _, _, _, 0, k.1.1, k.1.2, rfl, v1, hRT, v2, (u2.same 53 rfl).2, dv_at_fr (Int.le_refl _) nf w3, by rw [u4]; exact dv_ch_fr (fun i _ => lk i) w4, ⟨lt, ty, by rw [w5]; exact k1'⟩, by rw [w5]; exact k2, by rw [u4, w5]; exact k3, Nat.le_refl _, ?_, rfl⟩⟩
    obtain ⟨_, _, ⟨q, _⟩, _⟩ := k3 trivial
    omega
  · rintro nn pc ls u (⟨rfl, z, cc, L', x4, A, c, rfl, i1, i2, i3, i4, i5, i6, ⟨lt, ty, i7⟩, i8, i9, i10, i11, rfl⟩ | ⟨rfl, z, cc, L', x4, j, kk, h, F, c, v, rfl, i1, i2, i3, i4, i5, i6, ⟨lt, ty, i7⟩, i8, i9, i10, i11, i12, i13, i14, i15, i16, i17, rfl⟩)
    · have gW := i1 trivial
      obtain ⟨hGu, ⟨x1, x2⟩, ⟨y7, y12, _, yal⟩, _, ⟨yH, yK⟩, yks, _, _, ymk, ymks, _⟩ := gW
      obtain ⟨z1, _⟩ := hGu trivial
      have h29 := z1.fld 29 3 (by decide) rfl
      have rc := dv_ch_rng i6
      have hAL : ∀ q, L ≤ q → AL q := fun q hq => (yal q).mp (Or.inl (by rw [y12]; exact hq))
      obtain ⟨b1, b2, b3, b4⟩ := vx_c1_bd hrk W g4 hbs i9
      obtain ⟨⟨in1, ⟨j, kk, h, F, rfl⟩, t1⟩, _, ⟨L'0, _⟩, _⟩ := i7 trivial
      obtain ⟨q1, q2, q3, q4, q5, q6, q7, q8, q9, q10⟩ := dv_at_hd i5
      by_cases hk0 : kk = 0
      · subst hk0
        obtain ⟨⟨e1, e2, e3⟩, e4⟩ := dv_at_lam i5
        have hF : vx_sg F := by
          obtain ⟨a, b, c', d', ee, _⟩ := e4
          exact ⟨a, b, c', d', ee⟩
        obtain ⟨l1, l2⟩ := vx_lh_lam (j := j) (x := h) (F := F)
        rw [l1] at i11 b1
        obtain ⟨B, _, sd'⟩ := vx_sd_lam hF i7
        refine w_dv_fs48y (c_dz_kind hsL (d + 1) (by omega)) (c_dz_head hsL (d + 1) (by omega)) (c_dz_body hsL (d + 1) (by omega)) (c_dv_with hsL (d + 1) (by omega)) z1 (dv_at_z i5) (by omega) (by omega) (by omega) e1 (by omega) (fun t u1 u2 u3 => ?_)
        rw [e2] at u3
        have p1 := (u3 trivial).1
        have lf := dv_w1_lf u3
        have nf : dv_nf (u.1 11 6) S.2.2.2.2 S.2.2.2.2 u t := dv_nf_F _ u2 (by decide)
        have sws : dv_ws t S.2.2.2.2 (t.1 29 3) ws := dv_ws_hi (lf trivial).1 (dv_ws_fr (Int.le_refl _) nf (lf trivial).2 (fun i _ => by
          rw [(u2.same 47 rfl).2, (u2.same 48 rfl).2, (u2.same 51 rfl).2, (u2.same 52 rfl).2]
          exact ⟨rfl, rfl, rfl, rfl⟩) x1)
        obtain ⟨v1, v2⟩ := dx_WK_F (cur' := [(F, dv_lk ((h, L') :: c))]) (ws' := ws) i1 u1 (cx_F_step u2 rfl (cx_F_refl _ _)) (fun _ => ⟨by omega, fun i hi => (lf trivial).2 i (by omega)⟩) sws (by rw [(u2.same 46 rfl).1]; exact x2) (by rw [dv_lk_up]; exact vx_H_lam (hAL L' i8) yH) (by rw [dv_lk_up]; exact vx_Kn_lam (hAL L' i8) yK) yks (fun q hq => by rw [List.mem_singleton.mp hq]; exact vx_in_lam in1) ymks
        refine ⟨100 + vx_lh F, by rw [l1]; omega, Or.inl ⟨rfl, u.2.1 14 z.toNat, u.1 29 3, L' + 1, x4 + 1, F, (h, L') :: c, rfl, v1, fun j1 m1 F1 e => ?_, dx_WF_t i3 v2, by rw [(u2.same 53 rfl).2]; exact i4, dv_at_fr (Int.le_refl _) nf e4, dv_w1_c h29.1 u3 (Int.le_refl _) i6, ⟨_, B, sd'⟩, by omega, by rw [p1]; exact vx_c1_lam i9, by rw [vx_hz_lam vx_03] at i10; omega, by omega, rfl⟩⟩
        rcases i2 j1 m1 F1 e with q | ⟨q, _⟩
        · cases q
        · injection q with qa _
          rw [← qa] at e
          injection e with _ eb
          exact absurd (Prod.mk.inj eb).1 vx_03
      · obtain ⟨q7a, q7b⟩ := q7 hk0
        refine w_dv_fs48n (lv := dv_lk c h) (G := fun z' t => (z' = 0 ∧ t = u ∧ vx_NO n0 Qs S) ∨ (z' = 1 ∧ ∃ S' PR' tm' ws', dx_tm S tm tm' ∧ dv_WK tv tc n0 Qs p root r sf L AL bs mk0 cL cR t S' PR' tm' [] ws' ∧ dv_RT root S' (ws'.map dv_kf) ∧ dx_WF mk0 u t S S' ∧ dv_ms t ws' < 1 + dv_ms u ws)) (c_dz_kind hsL (d + 1) (by omega)) (c_dz_head hsL (d + 1) (by omega)) (c_dz_arity hsL (d + 1) (by omega)) (c_dv_isu hsL (d + 1) (by omega)) (c_dv_isa hsL (d + 1) (by omega)) (fun hk K' hK' => ?_) (fun hk K' hK' => ?_) (fun z' t ht => ?_) z1 (dv_at_z i5) (by omega) (by omega) (by omega) (by rw [q3]; exact hk0) (dv_lk_rng z1 i6 _) (by rw [q7a]; omega) (fun hk z' t ht => ?_) (fun hk hna => ?_) (fun hk ha => ?_)
        · have r13 := z1.arr 13 (by decide) rfl z.toNat
          rw [q4] at r13 ⊢
          exact c_dv_of hsL (d + 1) (by omega) _ _ _ c _ _ z1 r13 i6 (Int.le_refl _) hK'
        · obtain rfl : kk = 3 := by rw [← q3]; exact hk
          exact c_dx_fu hsL (d + 1) (by omega) hQ hpf hrs S PR tm ws j h F c z cc L' u K' i1 i2 i5 i6 ⟨lt, ty, i7⟩ i8 i9 (fun hno => hK' 0 u (Or.inl ⟨rfl, rfl, hno⟩)) (fun t S' PR' tm' ws' a0 a1 a2 a3 a4 => hK' 1 t (Or.inr ⟨rfl, S', PR', tm', ws', a0, a1, a2, a3, a4⟩))
        · rcases ht with ⟨q, _⟩ | ⟨q, _⟩
          · exact Or.inl q
          · exact Or.inr q
        · obtain rfl : kk = 3 := by rw [← q3]; exact hk
          rcases ht with ⟨rfl, rfl, hno⟩ | ⟨rfl, S', PR', tm', ws', a0, a1, a2, a3, a4⟩
          · exact hK0 _ z1 (i3 trivial).1 hno
          · refine hK1 t S' PR' tm' ws' a0 a1 a2 (dx_WF_t i3 a3) ?_
            rw [vx_hz_call] at i10
            rw [dv_ms_e i4] at a4
            omega
        · obtain rfl : kk = 2 := by rw [← q3]; exact hk
          refine hK0 u z1 (i3 trivial).1 ?_
          exact vx_J_no g8 hQ (vx_Kn_var yK (fun q => hna ((yal _).mpr q)))
        · rw [q3] at hk ha
          refine ⟨rf_len F, by omega, Or.inr ⟨rfl, z, cc, L', _, j, kk, h, F, c, u, rfl, i1, i2, i3, i4, i5, i6, ⟨lt, ty, i7⟩, i8, i9, i10, by omega, fun q => (yal _).mp (ha q), by rw [q7a]; omega, z1, cx_F_refl _ _, ?_, by rw [q7a]; omega, by rw [q7a]; omega⟩⟩
          have e1 : (u.2.1 16 z.toNat - 1 + 1).toNat = rf_len F := by omega
          rw [e1, List.drop_of_length_le (by rw [dv_wz_len]; exact Nat.le_refl _)]
          exact x1
    · have gW := i1 trivial
      obtain ⟨hGu, ⟨x1, x2⟩, ⟨y7, y12, _, yal⟩, _, ⟨yH, yK⟩, yks, _, _, ymk, ymks, _⟩ := gW
      obtain ⟨z1, _⟩ := hGu trivial
      have h29 := z1.fld 29 3 (by decide) rfl
      have rc := dv_ch_rng i6
      obtain ⟨b1, b2, b3, b4⟩ := vx_c1_bd hrk W g4 hbs i9
      obtain ⟨⟨in1, _, t1⟩, _, ⟨L'0, _⟩, _⟩ := i7 trivial
      obtain ⟨q1, q2, q3, q4, q5, q6, q7, q8, q9, q10⟩ := dv_at_hd i5
      obtain ⟨q7a, q7b⟩ := q7 (by omega)
      have trF := q9 i11
      have hk0 : kk ≠ 0 := by omega
      have hk3 : kk ≠ 3 := by omega
      have nf : dv_nf (v.1 11 6) S.2.2.2.2 S.2.2.2.2 v u := dv_nf_F _ i15 (by decide)
      have e11 : u.1 11 = v.1 11 := (i15.same 11 rfl).1
      have e29 : u.1 29 = v.1 29 := (i15.same 29 rfl).1
      have lk : ∀ i : Nat, u.2.1 30 i = v.2.1 30 i ∧ u.2.1 31 i = v.2.1 31 i ∧ u.2.1 32 i = v.2.1 32 i := fun i => by
        rw [(i15.same 30 rfl).2, (i15.same 31 rfl).2, (i15.same 32 rfl).2]
        exact ⟨rfl, rfl, rfl⟩
      have zl := dv_wz_len (F := F) (c := c) (L := L') (mk := v.1 29 3)
      by_cases hx : 0 ≤ x4
      · have a3' : dz_nd u F (u.2.1 14 z.toNat) := by
          rw [(i15.same 14 rfl).2]
          exact dz_nd_fr q6 (nf trivial).1 (fun i hi => rf_nd_lt q6 i hi)
        have a8' : dv_tr (u.2.1 16) S.2.2.2.2 F := by rw [(i15.same 16 rfl).2]; exact trF
        obtain ⟨w, hw⟩ := dv_drx x4.toNat a3'
        obtain ⟨A, eA, tA⟩ := dv_el_at (by omega) a8' hw
        have hlt : x4.toNat < (dv_wz F c L' (v.1 29 3)).length := by omega
        have zat : (dv_wz F c L' (v.1 29 3))[x4.toNat]? = some ((A, c), L', v.1 29 3) := by
          unfold dv_wz
          rw [List.getElem?_map, eA]
          rfl
        have zdr : (dv_wz F c L' (v.1 29 3)).drop x4.toNat = ((A, c), L', v.1 29 3) :: (dv_wz F c L' (v.1 29 3)).drop (x4.toNat + 1) := by
          rw [List.drop_eq_getElem_cons hlt]
          rw [List.getElem?_eq_getElem hlt] at zat
          rw [Option.some.inj zat]
        have rlen : (((dv_wz F c L' (v.1 29 3)).drop (x4 + 1).toNat ++ ws).length : Int) = u.1 46 6 := by
          rw [List.length_append, List.length_drop, zl]
          omega
        refine w_dv_fs168 (w := w) (c_dv_mark hsL (d + 1) (by omega)) (c_dv_push46 hsL (d + 1) (by omega)) (fun _ K' hK' => ?_) i14 (by omega) (by omega) (by omega) (fun _ => dv_at_z tA) (fun _ => by omega) (fun q => absurd q (by omega)) (fun _ t u1 u2 u3 => ?_)
        · refine c_dz_arg hsL (d + 1) (by omega) _ _ F _ _ i14 (by have := dv_at_z i5; rw [e11]; exact this) (by omega) a3' (fun z' _ q' => ?_)
          rw [dv_nd1 q' hw]
          exact hK'
        · obtain ⟨s1, s2, s3, s4, s5, s6, s7, s8⟩ := u3 trivial
          have nf2 : dv_nf (u.1 11 6) S.2.2.2.2 S.2.2.2.2 u t := dv_nf_F _ u2 (by decide)
          have lk2 : ∀ i : Nat, t.2.1 30 i = u.2.1 30 i ∧ t.2.1 31 i = u.2.1 31 i ∧ t.2.1 32 i = u.2.1 32 i := fun i => by
            rw [(u2.same 30 rfl).2, (u2.same 31 rfl).2, (u2.same 32 rfl).2]
            exact ⟨rfl, rfl, rfl⟩
          have t29 : t.1 29 3 = v.1 29 3 := by rw [(u2.same 29 rfl).1, e29]
          have ix : (u.1 46 6).toNat = ((dv_wz F c L' (v.1 29 3)).drop (x4 + 1).toNat ++ ws).length := by omega
          rw [ix] at s3 s4 s5 s6 s7 s8
          have key : dv_ws t S.2.2.2.2 (t.1 29 3) (((A, c), L', v.1 29 3) :: ((dv_wz F c L' (v.1 29 3)).drop (x4 + 1).toNat ++ ws)) := by
            refine ⟨⟨by show v.1 29 3 ≤ t.1 29 3; omega, h29.1⟩, ⟨?_, ?_⟩, ⟨s7, ?_⟩, ?_⟩
            · rw [s3]
              exact dv_at_fr (Int.le_refl _) nf2 tA
            · rw [s4]
              exact dv_ch_fr (fun i _ => lk2 i) (dv_ch_fr (fun i _ => lk i) i6)
            · rw [s8]
              show u.1 29 3 = v.1 29 3
              rw [e29]
            · refine dv_ws_fr (Int.le_refl _) nf2 (fun i _ => lk2 i) (fun i hi => ?_) (by rw [e29] at i16; exact i16)
              obtain ⟨o1, o2, _, _, o5, o6⟩ := s2 i (by omega)
              exact ⟨o1, o2, o5, o6⟩
          refine ⟨x4.toNat, by omega, Or.inr ⟨rfl, z, cc, L', x4 - 1, j, kk, h, F, c, v, rfl, i1, i2, i3, i4, i5, i6, ⟨lt, ty, i7⟩, i8, i9, i10, i11, i12, by omega, u1, cx_F_step u2 rfl i15, ?_, by omega, by omega⟩⟩
          rw [show (x4 - 1 + 1).toNat = x4.toNat by omega, zdr, List.cons_append, show x4.toNat + 1 = (x4 + 1).toNat by omega]
          exact key
      · have ex : x4 = -1 := by omega
        refine w_dv_fs168 (w := 0) (c_dv_mark hsL (d + 1) (by omega)) (c_dv_push46 hsL (d + 1) (by omega)) (fun q => absurd q hx) i14 (by omega) (by omega) (by omega) (fun q => absurd q hx) (fun q => absurd q hx) (fun _ => ?_) (fun q => absurd q hx)
        rw [ex] at i16
        have i16' : dv_ws u S.2.2.2.2 (u.1 29 3) (dv_wz F c L' (v.1 29 3) ++ ws) := i16
        have tyF : ∃ uu, (vx_ty tv tc tm S.2.2.2.2 F).2 uu := by
          rcases t1 with ⟨q, _⟩ | ⟨_, _, q⟩ | ⟨_, _, q⟩ | ⟨q, _⟩
          · exact absurd q hk0
          · exact ⟨_, q⟩
          · exact ⟨_, q⟩
          · exact absurd q hk3
        obtain ⟨uu, tyF⟩ := tyF
        have hTy : ∀ A ∈ vx_el F, ∃ lt t, vx_sd tv tc tm S lt L' t A c := fun A hA => by
          obtain ⟨i, e1, e2⟩ := List.getElem_of_mem hA
          obtain ⟨_, g⟩ := vx_ty_el tyF tyF
          obtain ⟨t', h1, _⟩ := g i A A (by rw [List.getElem?_eq_getElem e1, e2]) (by rw [List.getElem?_eq_getElem e1, e2])
          exact ⟨lt, t', vx_sd_el hk0 hk3 hA h1 i7⟩
        have hMk : ∀ q ∈ dv_wz F c L' (v.1 29 3) ++ ws, mk0 ≤ q.2.2 := fun q hq => by
          rcases List.mem_append.mp hq with hq | hq
          · unfold dv_wz at hq
            obtain ⟨A, _, rfl⟩ := List.mem_map.mp hq
            exact ymk
          · exact ymks q hq
        obtain ⟨v1, v2⟩ := dx_WK_F (cur' := []) (ws' := dv_wz F c L' (v.1 29 3) ++ ws) i1 i14 (cx_F_step i15 rfl (cx_F_refl _ _)) (fun _ => ⟨by rw [e29]; exact ymk, fun i _ => lk i⟩) i16' (by rw [List.length_append, zl]; omega) (by rw [List.map_append, dv_wz_kf]; exact vx_H_rig hk0 hk3 i12 yH) (by rw [List.map_append, dv_wz_kf]; exact vx_Kn_rig hk0 hk3 yK) (dv_ks_wz i8 yks (by rw [vx_el_len]; exact q7b) (fun A hA => ⟨hTy A hA, fun i' hi' => vx_c1_el hk0 hk3 hA hi' i9⟩)) (fun _ hq => absurd hq List.not_mem_nil) hMk
        refine hK1 u S PR tm _ (fun _ _ _ => rfl) v1 (fun j1 m1 F1 e => ?_) (dx_WF_t i3 v2) ?_
        · rcases i2 j1 m1 F1 e with q | ⟨q, _⟩
          · cases q
          · injection q with qa _
            rw [← qa] at e
            injection e with _ eb
            exact absurd (Prod.mk.inj eb).1 hk3
        · have e53 : u.2.1 53 = s.2.1 53 := by rw [(i15.same 53 rfl).2]; exact i4
          rw [dv_ms_e e53]
          unfold dv_ms at msk ⊢
          rw [dv_wz_hz]
          rw [vx_hz_lam hk3] at i10
          omega
