/-! ===== the types of the unknowns stay as they are: an unknown that is met, a step ===== -/
def dx_tm (S : vx_S) (tm tm' : Int → Int → rf_T) : Prop := ∀ m i, m < S.1 → tm' m i = tm m i
/-- no variable is made -/
def dx_v (s t : sx_S) : Prop := t.1 11 8 = s.1 11 8 ∧ t.2.1 17 = s.2.1 17
theorem dx_v_t {s u t : sx_S} (h1 : dx_v s u) (h2 : dx_v u t) : dx_v s t := ⟨h2.1.trans h1.1, h2.2.trans h1.2⟩
theorem dx_v_F {s u : sx_S} {W : List (Nat × Nat)} (h : cx_F W s u) (hw : cx_outb W 11 = true ∧ cx_outb W 17 = true) : dx_v s u := ⟨congrFun (h.same 11 hw.1).1 8, (h.same 17 hw.2).2⟩
def dx_WF (mk0 : Int) (s u : sx_S) (S T : vx_S) : Prop := True → cx_F [(11, 17), (29, 37), (46, 54)] s u ∧ dv_lm mk0 s u ∧ vx_l2 (fun _ => False) S T ∧ dv_nf (s.1 11 6) S.2.2.2.2 T.2.2.2.2 s u ∧ (s.1 11 6 = S.2.1 ∧ u.1 11 6 = T.2.1) ∧ u.2.1 54 = s.2.1 54 ∧ dx_v s u
theorem dx_WF_W {mk0 : Int} {s u : sx_S} {S T : vx_S} (h : dx_WF mk0 s u S T) : dv_WF mk0 s u S T := fun _ => by
  obtain ⟨a1, a2, a3, a4, a5, a6, _⟩ := h trivial
  exact ⟨a1, a2, a3, a4, a5, a6⟩
theorem dx_WF_mk {mk0 : Int} {s u : sx_S} {S T : vx_S} (h : dv_WF mk0 s u S T) (hv : dx_v s u) : dx_WF mk0 s u S T := fun _ => by
  obtain ⟨a1, a2, a3, a4, a5, a6⟩ := h trivial
  exact ⟨a1, a2, a3, a4, a5, a6, hv⟩
theorem dx_WF_t {mk0 : Int} {s t u : sx_S} {S T R : vx_S} (h1 : dx_WF mk0 s t S T) (h2 : dx_WF mk0 t u T R) : dx_WF mk0 s u S R := dx_WF_mk (dv_WF_t (dx_WF_W h1) (dx_WF_W h2)) (dx_v_t (h1 trivial).2.2.2.2.2.2 (h2 trivial).2.2.2.2.2.2)
theorem c_dx_fu {tv tc : Int → rf_T} {n0 : Int} {Qs : (Int → rf_N) → Prop} {p : vx_P} {root : rf_N × (Int → Int)} {r : List dv_E} {sf L : Int} {AL : Int → Prop} {bs : Nat} {mk0 : Int} {cL cR : List (Int × Int)} {j0 : Nat} {F0 : rf_N} {e0 : Int → Int} {sL : Nat} {sx : Nat → Int32} (hsL : sL ≤ 3072) (d : Nat) (hd : 5 ≤ d) (hQ : ∀ th th', vx_ag n0 th th' → Qs th → Qs th') (hpf : p = ((rf_n j0 3 sf F0 .leaf, e0), root, L)) (hrs : ∀ j F, root.1 ≠ rf_n j 3 sf F .leaf) : ∀ (S : vx_S) (PR : Int → List (Int × Int)) (tm : Int → Int → rf_T) (ws : List dv_K) (j : Nat) (m : Int) (F : rf_N) (c : List (Int × Int)) (a0 a1 a2 : Int) (s : sx_S) (K : Int → sx_S → Prop), dv_WK tv tc n0 Qs p root r sf L AL bs mk0 cL cR s S PR tm [(rf_n j 3 m F .leaf, dv_lk c)] ws → dv_RT root S ((rf_n j 3 m F .leaf, dv_lk c) :: ws.map dv_kf) → dv_at s S.2.2.2.2 (rf_n j 3 m F .leaf) a0 → dv_c s c (s.1 29 3) a1 → (∃ lt t, vx_sd tv tc tm S lt a2 t (rf_n j 3 m F .leaf) c) → L ≤ a2 → vx_c1 S bs (rf_n j 3 m F .leaf) (s.1 29 3) a2 ws.length → (vx_NO n0 Qs S → K 0 s) → (∀ u S' PR' tm' ws', dx_tm S tm tm' → dv_WK tv tc n0 Qs p root r sf L AL bs mk0 cL cR u S' PR' tm' [] ws' → dv_RT root S' (ws'.map dv_kf) → dx_WF mk0 s u S S' → dv_ms u ws' < 1 + dv_ms s ws → K 1 u) → sx_C sL sx d 81 [.inr (.inl 38), .inl a0, .inl a1, .inl a2] s K := by
  intro S PR tm ws j m F c a0 a1 a2 s K hWK hRT hA hc hsd hLa hc1 hK0 hK1
  obtain ⟨hG, ⟨w1, w2⟩, ⟨f7, f12, L0, fal⟩, hse, ⟨hH, hKn⟩, hks, ⟨o1, o2, ⟨o3, o4, o5⟩, _⟩, hbs, hmk, hmks, hps, h2p⟩ := hWK trivial
  obtain ⟨g1, g2, g3, g4, ⟨g5, g6⟩, g7, g8⟩ := hG trivial
  obtain ⟨⟨W, B1, Sc, rk, hrk⟩, TS⟩ := g3 trivial
  obtain ⟨⟨M1, M2, M3, M5⟩, M4⟩ := g2 trivial
  obtain ⟨c0, _, _, c3, c4, c5, _⟩ := g4 trivial
  obtain ⟨lt, ty, s1⟩ := hsd
  obtain ⟨⟨i1, _, t1⟩, _⟩ := s1 trivial
  obtain ⟨x0, x1⟩ := i1.1 m (Or.inl ⟨rfl, rfl⟩)
  have l1 := vx_in_len i1
  obtain ⟨_, _, _, q4, _, q6, q7, _, _, q10⟩ := dv_at_hd hA
  obtain ⟨q11, q12⟩ := q7 (by decide)
  obtain ⟨q13, q14, q15⟩ := q10 rfl
  have lF : (S.2.2.2.2 j).length = rf_len F := by rw [q13, dz_hs_len]
  have hp := dv_pow4 q12
  have h29 := g1.fld 29 3 (by decide) rfl
  have rc := dv_ch_rng hc
  obtain ⟨bd1, bd2, bd3, bd4⟩ := vx_c1_bd hrk W g4 hbs hc1
  have zc := vx_hz_call (j := j) (m := m) (F := F)
  obtain ⟨d, rfl⟩ : ∃ e, d = e + 2 := ⟨d - 2, by omega⟩
  have n0S : n0 ≤ S.1 := g8.2.2.1
  have alw : ∀ kp : Int, (∀ i : Nat, i < rf_len F → (dv_tb kp i = true ↔ dv_al s (dv_lk c ((dz_hs F).getD i (-1))))) → ∀ (i : Nat) y, (S.2.2.2.2 j)[i]? = some y → (dv_tb kp i = true ↔ AL (dv_lk c y)) := fun kp hkp i y hy => by
    obtain ⟨hi, _⟩ := List.getElem?_eq_some_iff.mp hy
    have := hkp i (by omega)
    rw [← q13, List.getD_eq_getElem?_getD, hy] at this
    rw [this, fal]
    rfl
  have ins : ∀ q ∈ root :: (rf_n j 3 m F .leaf, dv_lk c) :: ws.map dv_kf, vx_in S q.1 := fun q hq => by
    rcases List.mem_cons.mp hq with rfl | hq
    · exact o3
    · rcases List.mem_cons.mp hq with rfl | hq
      · exact i1
      · exact dv_ks_in hks q hq
  have inp : ∀ q ∈ p :: r.map dv_pe, vx_in S q.1.1 ∧ vx_in S q.2.1.1 := fun q hq => by
    rcases List.mem_cons.mp hq with rfl | hq
    · exact ⟨o4, o5⟩
    · exact dv_es_in g7 q hq
  -- nothing is left of the root where it is an unknown
  have rt0 : ∀ T : vx_S, dv_RT root T (ws.map dv_kf) := fun T j1 m1 F1 e1 => by
    rcases hRT j1 m1 F1 e1 with q | ⟨q, _⟩
    · cases q
    · injection q with q1 q2
      exact Or.inl q2
  have same : ∀ (T : vx_S) (PR' : Int → List (Int × Int)) (tm' : Int → Int → rf_T), vx_H S sf AL (dv_sn s) (dv_se s) (ws.map dv_kf) root → K 1 s := fun _ _ _ hH' => hK1 s S PR tm ws (fun _ _ _ => rfl) (fun _ => ⟨hG, ⟨w1, w2⟩, ⟨f7, f12, L0, fal⟩, hse, ⟨hH', vx_Kn_drop hKn⟩, hks, ⟨o1, o2, ⟨o3, o4, o5⟩, fun _ h => absurd h List.not_mem_nil⟩, hbs, hmk, hmks, hps, h2p⟩) (rt0 S) (fun _ => ⟨cx_F_refl _ _, fun _ => ⟨hmk, fun _ _ => ⟨rfl, rfl, rfl⟩⟩, vx_l2_refl S, dv_nf_refl _ _ _, ⟨M2, M2⟩, rfl, rfl, rfl⟩) (by omega)
  obtain ⟨bm0, bm⟩ := M4 m x0 x1
  have rm : 0 ≤ m ∧ m.toNat < 32 := by omega
  refine sx_meth (wr := true) (n := 400) hsL (e := eX6_fitUnknown) rfl (w_dv_fu (Q := fun _ _ _ => False) (m := m) (b := s.2.1 34 m.toNat) (al := ((2 ^ rf_len F : Nat) : Int) - 1) (P := fun z => (0 ≤ z ∧ z < ((2 ^ rf_len F : Nat) : Int)) ∧ ∀ i : Nat, i < rf_len F → (dv_tb z i = true ↔ dv_al s (dv_lk c ((dz_hs F).getD i (-1))))) (G2 := fun kp t => ∃ Fn, cx_I t ∧ cx_F [(11, 17), (33, 37)] s t ∧ dv_nr kp m (dz_hs F) s t Fn) (G3 := fun kp k' t => cx_I t ∧ cx_F [(29, 32)] (s.1, sx_ua s.2.1 53 m.toNat (dv_and (s.2.1 53 m.toNat) kp), s.2.2) t ∧ dv_lf (s.1, sx_ua s.2.1 53 m.toNat (dv_and (s.2.1 53 m.toNat) kp), s.2.2) t ∧ t.1 29 3 = s.1 29 3 + ((PR m).length : Int) ∧ dv_c t (dv_in (PR m) (dz_hs F) c) (t.1 29 3) k') (c_dz_head hsL (d + 1) (by omega)) (c_dv_body hsL (d + 1) (by omega)) (c_dv_mark hsL (d + 1) (by omega)) (c_dv_push46 hsL (d + 1) (by omega)) (fun _ K hK => ?_) (fun K hK => ?_) (fun kp hkp hb _ K hK => ?_) (fun kp hkp hb hI3 K hK => ?_) (fun kp hkp => ?_) (fun kp k' t ht => ?_) g1 (dv_at_z hA) (by omega) (by omega) q4 ⟨x0, by omega⟩ rfl (by omega) (fun he => hK0 ?_) (fun hne kp hkp hb he => ?_) (fun hne kp hkp hb he t ht => ?_) (fun hne kp hkp hb he => ?_) (fun hne kp hkp hb he k' t ht t' u1 u2 u3 => ?_))
  · exact c_dv_alw hsL (d + 1) (by omega) _ _ F c _ s K g1 (dv_at_z hA) q6 q11 q12 hc (Int.le_refl _) (fun z z0 z1 z2 => hK z ⟨⟨z0, z1⟩, z2⟩)
  · exact c_dv_ala hsL (d + 1) (by omega) _ (rf_len F) s K g1 (dv_at_z hA) q11 q12 hK
  · have hx : S.2.2.2.1 m = none := by
      rcases bm with ⟨q, _⟩ | ⟨B, _, q, _⟩
      · exact q
      · have := dv_at_z q
        omega
    refine c_dv_nar hsL (d + 1) (by omega) _ kp m F s K g1 (dv_at_z hA) (by have := hkp.1; omega) ⟨q4, x0, by omega⟩ q6 q11 q12 (by omega) ?_ (fun v hv => q15 v (by rw [q13]; exact hv)) (fun t Fn t1 t2 t3 => hK t ⟨Fn, t1, t2, t3⟩)
    have o1' := vx_op_1 hx
    have sa := vx_sm_at (f := fun u => vx_op S u * (vx_aa S u * (vx_aa S u + 1) / 2)) (x := m) (n := S.1.toNat) x0 (by omega)
    try dsimp only at sa
    rw [o1'.1, Nat.one_mul] at sa
    have ea : vx_aa S m = rf_len F := by unfold vx_aa; omega
    rw [ea] at sa
    have : rf_len F ≤ rf_len F * (rf_len F + 1) / 2 := by
      have h4 : rf_len F = 0 ∨ rf_len F = 1 ∨ rf_len F = 2 ∨ rf_len F = 3 ∨ rf_len F = 4 := by omega
      rcases h4 with h4 | h4 | h4 | h4 | h4 <;> rw [h4] <;> decide
    omega
  · rcases bm with ⟨_, q⟩ | ⟨B, bm1, bm2, bm3, bm4, bm5, bm6⟩
    · omega
    · have hPl : ((PR m).length : Int) ≤ (vx_aa S m : Int) := by
        have n1 : ((PR m).map Prod.snd).length ≤ (S.2.2.1 m).toNat := vx_ls_1 bm6 (fun x hx => by
          obtain ⟨q, hq1, hq2⟩ := List.mem_map.mp hx
          have := bm4 q hq1
          rw [← hq2]
          omega)
        rw [List.length_map] at n1
        unfold vx_aa
        omega
      have ha4 : vx_aa S m ≤ 4 := by unfold vx_aa; omega
      exact c_dv_ins hsL (d + 1) (by omega) a0 a1 (s.1 29 3) m F (PR m) c (s.1, sx_ua s.2.1 53 m.toNat (dv_and (s.2.1 53 m.toNat) kp), s.2.2) K hI3 (dv_at_z hA) ⟨q4, x0, by omega⟩ q6 bm3 (fun q hq => by have := bm4 q hq; omega) (by omega) hc (Int.le_refl _) (by show s.1 29 3 + _ ≤ 1024; omega) (fun z t t1 t2 t3 t4 t5 => hK z t ⟨t1, t2, t3, t4, t5⟩)
  · have := hkp.1
    omega
  · obtain ⟨y1, y2, y3, y4, y5⟩ := ht
    have r5 := dv_ch_rng y5
    have y6 := y1.fld 29 3 (by decide) rfl
    refine ⟨y1, by omega, ?_⟩
    rw [(y2.same 46 rfl).1]
    show s.1 46 6 < 512
    omega
  · rw [f7] at he
    have hns := vx_Kn_self (S := S) (al := AL) (L := L) (u := sf) (j := j0) (F := F0) (e := e0) (B := root.1) (d := root.2) hrs (j' := j) (F' := F) (e' := dv_lk c) (pend := ws.map dv_kf) (by rw [hpf, he] at hKn; exact hKn)
    exact vx_J_no g8 hQ (by rw [hpf]; exact hns)
  · have hx : S.2.2.2.1 m = none := by
      rcases bm with ⟨q, _⟩ | ⟨B, _, q, _⟩
      · exact q
      · have := dv_at_z q
        omega
    rw [f7] at hne
    refine same S PR tm (vx_H_drop (vx_O_open hx hne (fun y hy => ?_)) hH)
    obtain ⟨i, e1, e2⟩ := List.getElem_of_mem hy
    refine (alw kp hkp.2 i y (by rw [List.getElem?_eq_getElem e1, e2])).mp ?_
    rw [he, dv_tb_all (by omega) (by omega), decide_eq_true (by omega)]
  · have hx : S.2.2.2.1 m = none := by
      rcases bm with ⟨q, _⟩ | ⟨B, _, q, _⟩
      · exact q
      · have := dv_at_z q
        omega
    rw [f7] at hne
    obtain ⟨Fn, t1', t2', t3'⟩ := ht
    have hlt : ∃ i, i < (S.2.2.2.2 j).length ∧ dv_tb kp i = false := by
      apply Classical.byContradiction
      intro hne'
      refine he (dv_tb_eq hkp.1.1 (by have := hkp.1; omega) (by omega) (by omega) (fun i hi => ?_))
      rw [dv_tb_all (by omega) hi]
      by_cases hl : i < rf_len F
      · rw [decide_eq_true hl]
        cases hq : dv_tb kp i with
        | true => rfl
        | false => exact absurd ⟨i, by omega, hq⟩ hne'
      · rw [decide_eq_false hl]
        exact dv_tb_hi hkp.1.2 (by omega)
    have hal := alw kp hkp.2
    obtain ⟨T, PR', tm', eu, zs, ks, jn, n1, n2, n3, n4, n5, hG'⟩ := dv_G_nw (ps' := [p]) hG hA i1 (vx_ty_call t1) hx t3' hlt t1' t2' (fun T eu zs ks jn n1 n2 => vx_Kn_nw g8 W n1 hQ inp l1 (fun i y hy ha => (n2 i (by obtain ⟨hi, _⟩ := List.getElem?_eq_some_iff.mp hy; exact hi)).mpr ((hal i y hy).mpr ha)) hKn)
    have hle := vx_nw_le n1
    have e53 : t.2.1 53 = s.2.1 53 := (t2'.same 53 rfl).2
    have e54 : t.2.1 54 = s.2.1 54 := (t2'.same 54 rfl).2
    have e38 : t.1 38 = s.1 38 := (t2'.same 38 rfl).1
    have e29 : t.1 29 = s.1 29 := (t2'.same 29 rfl).1
    have e46 : t.1 46 = s.1 46 := (t2'.same 46 rfl).1
    have esn : dv_sn t = dv_sn s := by
      funext y
      unfold dv_sn
      rw [e53]
    have ese : dv_se t = dv_se s := by
      funext y z
      unfold dv_se
      rw [e53]
    have eal : ∀ v, dv_al t v ↔ AL v := fun v => by
      rw [← fal v]
      unfold dv_al
      rw [e38, e54]
    obtain ⟨⟨_, hT2, _⟩, _⟩ := (hG' trivial).2.1 trivial
    have hsf : sf < S.1 := by
      have := o4.1 sf (by rw [hpf]; exact Or.inl ⟨rfl, rfl⟩)
      exact this.2
    have hbsf : T.2.2.2.1 sf = none := by
      obtain ⟨_, _, _, nd, _⟩ := n1
      rw [nd, if_neg (fun q => hne q.symm)]
      exact o1
    refine hK1 t T PR' tm' ws (by first | exact n2 | exact n3 | exact n4 | exact n5) (fun _ => ⟨hG', ⟨?_, by rw [e46]; exact w2⟩, ⟨by rw [e38]; exact f7, by rw [e38]; exact f12, L0, eal⟩, by rw [e53]; exact hse, ⟨?_, vx_Kn_drop (vx_Kn_le W hle ⟨o4, o5⟩ (fun q hq => ins q (List.mem_cons_of_mem _ hq)) hKn)⟩, dv_ks_le W hle n5 n4 hks, ⟨hbsf, o2, ⟨vx_in_le hle o3, vx_in_le hle o4, vx_in_le hle o5⟩, fun _ h => absurd h List.not_mem_nil⟩, hbs, by rw [e29]; exact hmk, hmks, ?_, vx_2_le hle n5 n4 h2p⟩) (rt0 T) (fun _ => ⟨cx_F_step t2' rfl (cx_F_refl _ _), fun _ => ⟨by rw [e29]; exact hmk, fun i _ => by rw [(t2'.same 30 rfl).2, (t2'.same 31 rfl).2, (t2'.same 32 rfl).2]; exact ⟨rfl, rfl, rfl⟩⟩, vx_nw_l2 n1, n3, ⟨M2, hT2⟩, e54, (t3' trivial).2.2.2.2.2.2.2⟩) ?_
    · rw [e29]
      refine dv_ws_fr (Int.le_refl _) n3 (fun i _ => ?_) (fun i _ => ?_) w1
      · rw [(t2'.same 30 rfl).2, (t2'.same 31 rfl).2, (t2'.same 32 rfl).2]
        exact ⟨rfl, rfl, rfl⟩
      · rw [(t2'.same 47 rfl).2, (t2'.same 48 rfl).2, (t2'.same 51 rfl).2, (t2'.same 52 rfl).2]
        exact ⟨rfl, rfl, rfl, rfl⟩
    · rw [esn, ese]
      exact vx_H_nw W n1 hne hsf ins (fun i y hy hi => (hal i y hy).mp ((n2 i (by obtain ⟨hi', _⟩ := List.getElem?_eq_some_iff.mp hy; exact hi')).mp hi)) hH
    · refine dv_ps_fr (Int.le_refl _) n3 (fun i _ => ?_) (fun i _ => ?_) hps
      · rw [(t2'.same 30 rfl).2, (t2'.same 31 rfl).2, (t2'.same 32 rfl).2]
        exact ⟨rfl, rfl, rfl⟩
      · rw [(t2'.same 40 rfl).2, (t2'.same 41 rfl).2, (t2'.same 42 rfl).2, (t2'.same 43 rfl).2, (t2'.same 44 rfl).2, (t2'.same 45 rfl).2]
        exact ⟨rfl, rfl, rfl, rfl, rfl, rfl⟩
    · unfold dv_ms dv_cs
      rw [e53]
      omega
  · have hk16 : kp < 16 := by have := hkp.1; omega
    have h53 := hse m.toNat rm.2
    have hand := dv_tb_and h53.1 h53.2 hkp.1.1 (by omega)
    have hsn : dv_sn s m := ⟨by omega, fun q => by
      have b4 := hand.2 4 (by omega)
      rw [he, q] at b4
      have t1 : dv_tb 31 4 = true := by decide
      have t2 : dv_tb kp 4 = false := dv_tb_hi (j := 4) (by show kp < 16; exact hk16) (Nat.le_refl _)
      rw [t1, t2] at b4
      exact absurd b4 (by decide)⟩
    refine same S PR tm (vx_H_skip hsn (fun i hi z hz => ?_) hH)
    have hi2 : dv_tb (s.2.1 53 m.toNat) i = true := by
      have := hi.2
      rw [Int.toNat_natCast] at this
      exact this
    obtain ⟨hil, _⟩ := List.getElem?_eq_some_iff.mp hz
    have b := hand.2 i (by omega)
    rw [he, hi2] at b
    have b' : dv_tb kp i = true := by
      cases hq : dv_tb kp i with
      | true => rfl
      | false =>
        rw [hq] at b
        exact absurd b (by decide)
    exact (alw kp hkp.2 i z hz).mp b'
  · rcases bm with ⟨_, q⟩ | ⟨B, bm1, bm2, bm3, bm4, bm5, bm6⟩
    · omega
    · obtain ⟨y1, y2, y3, y4, y5⟩ := ht
      have hB : vx_sg B := by
        obtain ⟨a, b, cc, dd, ee, _⟩ := bm2
        exact ⟨a, b, cc, dd, ee⟩
      have hPl : ((PR m).length : Int) ≤ (vx_aa S m : Int) := by
        have n1 : ((PR m).map Prod.snd).length ≤ (S.2.2.1 m).toNat := vx_ls_1 bm6 (fun x hx => by
          obtain ⟨q, hq1, hq2⟩ := List.mem_map.mp hx
          have := bm4 q hq1
          rw [← hq2]
          omega)
        rw [List.length_map] at n1
        unfold vx_aa
        omega
      have hk16 : kp < 16 := by have := hkp.1; omega
      have h53 := hse m.toNat rm.2
      have hand := dv_tb_and h53.1 h53.2 hkp.1.1 (by omega)
      have hF1 : cx_F [(29, 33), (38, 38), (46, 54)] s t' := cx_F_step u2 rfl (cx_F_step y2 rfl (cx_F_ua rfl (cx_F_refl _ _)))
      have hF2 : cx_F [(11, 17), (29, 37), (46, 54)] s t' := cx_F_step u2 rfl (cx_F_step y2 rfl (cx_F_ua rfl (cx_F_refl _ _)))
      have e53 : t'.2.1 53 = fun i => if i = m.toNat then dv_and (s.2.1 53 m.toNat) kp else s.2.1 53 i := by
        rw [(u2.same 53 rfl).2, (y2.same 53 rfl).2]
        show sx_ua s.2.1 53 m.toNat (dv_and (s.2.1 53 m.toNat) kp) 53 = _
        exact sx_ua_same _ _ _ _
      have ua : ∀ q, q ≠ 53 → sx_ua s.2.1 53 m.toNat (dv_and (s.2.1 53 m.toNat) kp) q = s.2.1 q := fun q hq => sx_ua_ne hq
      have e54 : t'.2.1 54 = s.2.1 54 := by
        rw [(u2.same 54 rfl).2, (y2.same 54 rfl).2]
        exact ua 54 (by decide)
      have e38 : t'.1 38 = s.1 38 := by rw [(u2.same 38 rfl).1, (y2.same 38 rfl).1]
      have e33 : t'.1 33 = s.1 33 := by rw [(u2.same 33 rfl).1, (y2.same 33 rfl).1]
      have e29 : t'.1 29 3 = t.1 29 3 := by rw [(u2.same 29 rfl).1]
      have e46 : t.1 46 6 = s.1 46 6 := by rw [(y2.same 46 rfl).1]
      have lk0 : ∀ i : Nat, t'.2.1 30 i = t.2.1 30 i ∧ t'.2.1 31 i = t.2.1 31 i ∧ t'.2.1 32 i = t.2.1 32 i := fun i => by
        rw [(u2.same 30 rfl).2, (u2.same 31 rfl).2, (u2.same 32 rfl).2]
        exact ⟨rfl, rfl, rfl⟩
      have lf : dv_lf s t' := fun _ => ⟨by omega, fun i hi => by
        obtain ⟨p1, p2, p3⟩ := lk0 i
        obtain ⟨p4, p5, p6⟩ := (y3 trivial).2 i hi
        refine ⟨p1.trans (p4.trans ?_), p2.trans (p5.trans ?_), p3.trans (p6.trans ?_)⟩
        · exact congrFun (ua 30 (by decide)) i
        · exact congrFun (ua 31 (by decide)) i
        · exact congrFun (ua 32 (by decide)) i⟩
      have nf : dv_nf (s.1 11 6) S.2.2.2.2 S.2.2.2.2 s t' := dv_nf_F _ hF1 (by decide)
      obtain ⟨x1', x2', x3'⟩ := dv_in_lk (c := c) (P := PR m) (hs := S.2.2.2.2 j) bm5 (fun q hq => by have := bm4 q hq; omega)
      obtain ⟨p1, p2, p3, p4, p5, p6, p7, p8⟩ := u3 trivial
      have ix : (t.1 46 6).toNat = ws.length := by omega
      rw [ix] at p3 p4 p5 p6 p7 p8
      have t314 : dv_tb 31 4 = true := by decide
      have kp4 : dv_tb kp 4 = false := dv_tb_hi (j := 4) (by show kp < 16; exact hk16) (Nat.le_refl _)
      have hne31 : dv_and (s.2.1 53 m.toNat) kp ≠ 31 := fun q => by
        have b4 := hand.2 4 (by omega)
        rw [q, t314, kp4, Bool.and_false] at b4
        exact absurd b4 (by decide)
      have esn : dv_sn t' = fun x => x = m ∨ dv_sn s x := by
        funext x
        unfold dv_sn
        rw [e53]
        dsimp only
        by_cases q : x = m
        · rw [if_pos (by rw [q])]
          exact propext ⟨fun _ => Or.inl q, fun _ => ⟨by omega, hne31⟩⟩
        · refine propext ⟨fun h => Or.inr ⟨h.1, ?_⟩, fun h => ?_⟩
          · have h2 := h.2
            rw [if_neg (by have := h.1; omega)] at h2
            exact h2
          · rcases h with h | h
            · exact absurd h q
            · refine ⟨h.1, ?_⟩
              rw [if_neg (by have := h.1; omega)]
              exact h.2
      have hrm : root.1 ≠ rf_n j 3 m F .leaf := fun e1 => by
        rcases hRT j m F e1 with q | ⟨_, q⟩
        · cases q
        · rw [bm1] at q
          cases q
      have nl : ∀ v, v < 0 → ¬ AL v := fun v hv ha => by
        rcases (fal v).mpr ha with q | ⟨q, _⟩
        · omega
        · omega
      have hal := alw kp hkp.2
      have eal : ∀ v, dv_al t' v ↔ AL v := fun v => by
        rw [← fal v]
        unfold dv_al
        rw [e38, e54]
      have hc1' := vx_c1_in (u' := t.1 29 3) g4 hB bm1 (by omega) hc1
      have hzB := (vx_c1_bd hrk W g4 hbs hc1').2.2.2
      refine hK1 t' S PR tm (((B, dv_in (PR m) (S.2.2.2.2 j) c), a2, t.1 29 3) :: ws) (fun _ _ _ => rfl) (fun _ => ⟨dv_G_F hG u1 hF1 (by rw [e33]) lf g8, ⟨⟨⟨by show t.1 29 3 ≤ t'.1 29 3; omega, by show 0 ≤ t.1 29 3; omega⟩, ⟨?_, ?_⟩, ⟨p7, p8⟩, ?_⟩, ?_⟩, ⟨by rw [e38]; exact f7, by rw [e38]; exact f12, L0, eal⟩, fun i hi => ?_, ⟨?_, ?_⟩, ⟨⟨⟨lt, ty, ?_⟩, hLa, hc1'⟩, hks⟩, ⟨o1, o2, ⟨o3, o4, o5⟩, fun _ h => absurd h List.not_mem_nil⟩, hbs, by omega, fun k hk => ?_, dv_ps_fr (Int.le_refl _) nf (fun i hi => (lf trivial).2 i (by omega)) (fun i _ => by rw [(hF1.same 40 rfl).2, (hF1.same 41 rfl).2, (hF1.same 42 rfl).2, (hF1.same 43 rfl).2, (hF1.same 44 rfl).2, (hF1.same 45 rfl).2]; exact ⟨rfl, rfl, rfl, rfl, rfl, rfl⟩) hps, h2p⟩) (fun j1 m1 F1 e1 => ?_) (fun _ => ⟨hF2, fun _ => ⟨by omega, fun i hi => (lf trivial).2 i (by omega)⟩, vx_l2_refl S, nf, ⟨M2, by rw [(hF1.same 11 rfl).1]; exact M2⟩, e54, congrFun (hF1.same 11 rfl).1 8, (hF1.same 17 rfl).2⟩) ?_
      · rw [p3]
        exact dv_at_fr (Int.le_refl _) nf bm2
      · rw [p4, q13]
        exact dv_ch_fr (fun i _ => lk0 i) y5
      · refine dv_ws_hi (by show s.1 29 3 ≤ t.1 29 3; omega) (dv_ws_fr (Int.le_refl _) nf (fun i hi => (lf trivial).2 i hi) (fun i hi => ?_) w1)
        obtain ⟨r1, r2, _, _, r5, r6⟩ := p2 i (by omega)
        refine ⟨r1.trans ?_, r2.trans ?_, r5.trans ?_, r6.trans ?_⟩
        · rw [(y2.same 47 rfl).2]
          exact congrFun (ua 47 (by decide)) i
        · rw [(y2.same 48 rfl).2]
          exact congrFun (ua 48 (by decide)) i
        · rw [(y2.same 51 rfl).2]
          exact congrFun (ua 51 (by decide)) i
        · rw [(y2.same 52 rfl).2]
          exact congrFun (ua 52 (by decide)) i
      · rw [List.length_cons]
        omega
      · rw [e53]
        dsimp only
        by_cases q : i = m.toNat
        · rw [if_pos q]
          exact hand.1
        · rw [if_neg q]
          exact hse i hi
      · rw [esn]
        refine vx_H_body (kp := fun i => 0 ≤ i ∧ dv_tb kp i.toNat = true) (e' := dv_lk (dv_in (PR m) (S.2.2.2.2 j) c)) bm1 x1' (fun z hz => by rw [x2' z hz]; exact nl _ (by omega)) x3' (fun i y hy => ?_) (fun i hi hs => ?_) (fun x i hx hi => ?_) hH
        · have := hal i y hy
          rw [← this]
          exact ⟨fun h => h.2, fun h => ⟨by omega, h⟩⟩
        · refine ⟨⟨x0, hi.1⟩, ?_⟩
          rw [e53]
          dsimp only
          rw [if_pos rfl]
          have hi5 : i.toNat < 5 := by
            apply Classical.byContradiction
            intro hge
            have := dv_tb_hi (k := kp) (j := 4) (i := i.toNat) (by show kp < 16; exact hk16) (by omega)
            rw [this] at hi
            exact absurd hi.2 (by decide)
          rw [hand.2 _ hi5, hi.2, Bool.and_true]
          by_cases q : s.2.1 53 m.toNat = 31
          · rw [q]
            have : ∀ n : Fin 5, dv_tb 31 n.val = true := by decide
            exact this ⟨i.toNat, hi5⟩
          · exact (hs ⟨by omega, q⟩).2
        · refine ⟨hi.1, ?_⟩
          rw [e53]
          dsimp only
          by_cases q : x.toNat = m.toNat
          · exact absurd (by have := hi.1; omega) hx
          · rw [if_neg q]
            exact hi.2
      · exact vx_Kn_body hrm bm1 x1' x3' hKn
      · exact vx_sd_body g3 bm1 q14 s1
      · rcases List.mem_cons.mp hk with rfl | hk
        · show mk0 ≤ t.1 29 3
          omega
        · exact hmks k hk
      · rcases hRT j1 m1 F1 e1 with q | ⟨q, q'⟩
        · cases q
        · injection q with q1 _
          rw [← q1] at e1
          exact absurd q1.symm (fun q2 => hrm (by rw [q2]))
      · have up := vx_sm_up (f := fun x => dv_cd (t'.2.1 53 x.toNat)) (g := fun x => dv_cd (s.2.1 53 x.toNat)) (x := m) (n := 32) x0 (by omega) (fun i hi hx => by
          try dsimp only
          rw [e53]
          try dsimp only
          rw [if_neg (by omega)])
        have lt' := dv_cd_lt h53.1 h53.2 hkp.1.1 (by omega) he
        try dsimp only at up
        rw [e53] at up
        try dsimp only at up
        rw [if_pos rfl] at up
        have z1 : dv_hz (((B, dv_in (PR m) (S.2.2.2.2 j) c), a2, t.1 29 3) :: ws) = vx_hz B + dv_hz ws := rfl
        unfold dv_ms dv_cs
        rw [z1, e53]
        try dsimp only
        omega
