section
/-! ===== the types of the unknowns stay as they are: an unknown that is met, a step ===== -/
def dx_tm (S : vx_S) (tm tm' : Int → Int → rf_T) : Prop := ∀ m i, m < S.1 → tm' m i = tm m i
/-- no variable is made -/
def dx_v (s t : sx_S) : Prop := t.1 11 8 = s.1 11 8 ∧ t.2.1 17 = s.2.1 17
theorem dx_v_t {s u t : sx_S} (h1 : dx_v s u) (h2 : dx_v u t) : dx_v s t := ⟨h2.1.trans h1.1, h2.2.trans h1.2⟩
theorem dx_v_F {s u : sx_S} {W : List (Nat × Nat)} (h : cx_F W s u) (hw : cx_outb W 11 = true ∧ cx_outb W 17 = true) : dx_v s u := ⟨congrFun (h.same 11 hw.1).1 8, (h.same 17 hw.2).2⟩
def dx_WF (mk0 : Int) (s u : sx_S) (S T : vx_S) : Prop := True → cx_F [(11, 17), (29, 37), (46, 54)] s u ∧ dv_lm mk0 s u ∧ vx_l2 (fun _ => False) S T ∧ dv_nf (s.1 11 6) S.2.2.2.2 T.2.2.2.2 s u ∧ (s.1 11 6 = S.2.1 ∧ u.1 11 6 = T.2.1) ∧ u.2.1 54 = s.2.1 54 ∧ dx_v s u
theorem dx_WF_W {mk0 : Int} {s u : sx_S} {S T : vx_S} (h : dx_WF mk0 s u S T) : dv_WF mk0 s u S T := fun _ => by
  obtain ⟨a1, a2, a3, a4, a5, a6, _⟩ := h trivial
  exact ⟨a1, a2, a3, a4, a5, a6⟩
theorem dx_WF_mk {mk0 : Int} {s u : sx_S} {S T : vx_S} (h : dv_WF mk0 s u S T) (hv : dx_v s u) : dx_WF mk0 s u S T := fun _ => by
  obtain ⟨a1, a2, a3, a4, a5, a6⟩ := h trivial
  exact ⟨a1, a2, a3, a4, a5, a6, hv⟩
theorem dx_WF_t {mk0 : Int} {s t u : sx_S} {S T R : vx_S} (h1 : dx_WF mk0 s t S T) (h2 : dx_WF mk0 t u T R) : dx_WF mk0 s u S R := dx_WF_mk (dv_WF_t (dx_WF_W h1) (dx_WF_W h2)) (dx_v_t (h1 trivial).2.2.2.2.2.2 (h2 trivial).2.2.2.2.2.2)
theorem c_dx_fu {tv tc : Int → rf_T} {n0 : Int} {Qs : (Int → rf_N) → Prop} {p : vx_P} {root : rf_N × (Int → Int)} {r : List dv_E} {sf L : Int} {AL : Int → Prop} {bs : Nat} {mk0 : Int} {cL cR : List (Int × Int)} {j0 : Nat} {F0 : rf_N} {e0 : Int → Int} {sL : Nat} {sx : Nat → Int32} (hsL : sL ≤ 3072) (d : Nat) (hd : 5 ≤ d) (hQ : ∀ th th', vx_ag n0 th th' → Qs th → Qs th') (hpf : p = ((rf_n j0 3 sf F0 .leaf, e0), root, L)) (hrs : ∀ j F, root.1 ≠ rf_n j 3 sf F .leaf) : ∀ (S : vx_S) (PR : Int → List (Int × Int)) (tm : Int → Int → rf_T) (ws : List dv_K) (j : Nat) (m : Int) (F : rf_N) (c : List (Int × Int)) (a0 a1 a2 : Int) (s : sx_S) (K : Int → sx_S → Prop), dv_WK tv tc n0 Qs p root r sf L AL bs mk0 cL cR s S PR tm [(rf_n j 3 m F .leaf, dv_lk c)] ws → dv_RT root S ((rf_n j 3 m F .leaf, dv_lk c) :: ws.map dv_kf) → dv_at s S.2.2.2.2 (rf_n j 3 m F .leaf) a0 → dv_c s c (s.1 29 3) a1 → (∃ lt t, vx_sd tv tc tm S lt a2 t (rf_n j 3 m F .leaf) c) → L ≤ a2 → vx_c1 S bs (rf_n j 3 m F .leaf) (s.1 29 3) a2 ws.length → (vx_NO n0 Qs S → K 0 s) → (∀ u S' PR' tm' ws', dx_tm S tm tm' → dv_WK tv tc n0 Qs p root r sf L AL bs mk0 cL cR u S' PR' tm' [] ws' → dv_RT root S' (ws'.map dv_kf) → dx_WF mk0 s u S S' → dv_ms u ws' < 1 + dv_ms s ws → K 1 u) → sx_C sL sx d 81 [.inr (.inl 38), .inl a0, .inl a1, .inl a2] s K := by
  intro S PR tm ws j m F c a0 a1 a2 s K hWK hRT hA hc hsd hLa hc1 hK0 hK1
  obtain ⟨hG, ⟨w1, w2⟩, ⟨f7, f12, L0, fal⟩, hse, ⟨hH, hKn⟩, hks, ⟨o1, o2, ⟨o3, o4, o5⟩, _⟩, hbs, hmk, hmks, hps, h2p⟩ := hWK trivial
  obtain ⟨g1, g2, g3, g4, ⟨g5, g6⟩, g7, g8⟩ := hG trivial
  obtain ⟨⟨W, B1, Sc, rk, hrk⟩, TS⟩ := g3 trivial
  obtain ⟨⟨M1, M2, M3, M5⟩, M4⟩ := g2 trivial
  obtain ⟨c0, _, _, c3, c4, c5, _⟩ := g4 trivial
  obtain ⟨lt, ty, s1⟩ := hsd
  obtain ⟨⟨i1, _, t1⟩, _⟩ := s1 trivial
  obtain ⟨x0, x1⟩ := i1.1 m (Or.inl ⟨rfl, rfl⟩)
  have l1 := vx_in_len i1
  obtain ⟨_, _, _, q4, _, q6, q7, _, _, q10⟩ := dv_at_hd hA
  obtain ⟨q11, q12⟩ := q7 (by decide)
  obtain ⟨q13, q14, q15⟩ := q10 rfl
  have lF : (S.2.2.2.2 j).length = rf_len F := by rw [q13, dz_hs_len]
  have hp := dv_pow4 q12
  have h29 := g1.fld 29 3 (by decide) rfl
  have rc := dv_ch_rng hc
  obtain ⟨bd1, bd2, bd3, bd4⟩ := vx_c1_bd hrk W g4 hbs hc1
  have zc := vx_hz_call (j := j) (m := m) (F := F)
  obtain ⟨d, rfl⟩ : ∃ e, d = e + 2 := ⟨d - 2, by omega⟩
  have n0S : n0 ≤ S.1 := g8.2.2.1
  have alw : ∀ kp : Int, (∀ i : Nat, i < rf_len F → (dv_tb kp i = true ↔ dv_al s (dv_lk c ((dz_hs F).getD i (-1))))) → ∀ (i : Nat) y, (S.2.2.2.2 j)[i]? = some y → (dv_tb kp i = true ↔ AL (dv_lk c y)) := fun kp hkp i y hy => by
    obtain ⟨hi, _⟩ := List.getElem?_eq_some_iff.mp hy
    have := hkp i (by omega)
    rw [← q13, List.getD_eq_getElem?_getD, hy] at this
    rw [this, fal]
    rfl
  have ins : ∀ q ∈ root :: (rf_n j 3 m F .leaf, dv_lk c) :: ws.map dv_kf, vx_in S q.1 := fun q hq => by
    rcases List.mem_cons.mp hq with rfl | hq
    · exact o3
    · rcases List.mem_cons.mp hq with rfl | hq
      · exact i1
      · exact dv_ks_in hks q hq
  have inp : ∀ q ∈ p :: r.map dv_pe, vx_in S q.1.1 ∧ vx_in S q.2.1.1 := fun q hq => by
    rcases List.mem_cons.mp hq with rfl | hq
    · exact ⟨o4, o5⟩
    · exact dv_es_in g7 q hq
  -- nothing is left of the root where it is an unknown
  have rt0 : ∀ T : vx_S, dv_RT root T (ws.map dv_kf) := fun T j1 m1 F1 e1 => by
    rcases hRT j1 m1 F1 e1 with q | ⟨q, _⟩
    · cases q
    · injection q with q1 q2
      exact Or.inl q2
  have same : ∀ (T : vx_S) (PR' : Int → List (Int × Int)) (tm' : Int → Int → rf_T), vx_H S sf AL (dv_sn s) (dv_se s) (ws.map dv_kf) root → K 1 s := fun _ _ _ hH' => hK1 s S PR tm ws (fun _ _ _ => rfl) (fun _ => ⟨hG, ⟨w1, w2⟩, ⟨f7, f12, L0, fal⟩, hse, ⟨hH', vx_Kn_drop hKn⟩, hks, ⟨o1, o2, ⟨o3, o4, o5⟩, fun _ h => absurd h List.not_mem_nil⟩, hbs, hmk, hmks, hps, h2p⟩) (rt0 S) (fun _ => ⟨cx_F_refl _ _, fun _ => ⟨hmk, fun _ _ => ⟨rfl, rfl, rfl⟩⟩, vx_l2_refl S, dv_nf_refl _ _ _, ⟨M2, M2⟩, rfl, rfl, rfl⟩) (by omega)
  obtain ⟨bm0, bm⟩ := M4 m x0 x1
  have rm : 0 ≤ m ∧ m.toNat < 32 := by omega
  refine sx_meth (wr := true) (n := 400) hsL (e := eX6_fitUnknown) rfl (w_dv_fu (Q := fun _ _ _ => False) (m := m) (b := s.2.1 34 m.toNat) (al := ((2 ^ rf_len F : Nat) : Int) - 1) (P := fun z => (0 ≤ z ∧ z < ((2 ^ rf_len F : Nat) : Int)) ∧ ∀ i : Nat, i < rf_len F → (dv_tb z i = true ↔ dv_al s (dv_lk c ((dz_hs F).getD i (-1))))) (G2 := fun kp t => ∃ Fn, cx_I t ∧ cx_F [(11, 17), (33, 37)] s t ∧ dv_nr kp m (dz_hs F) s t Fn) (G3 := fun kp k' t => cx_I t ∧ cx_F [(29, 32)] (s.1, sx_ua s.2.1 53 m.toNat (dv_and (s.2.1 53 m.toNat) kp), s.2.2) t ∧ dv_lf (s.1, sx_ua s.2.1 53 m.toNat (dv_and (s.2.1 53 m.toNat) kp), s.2.2) t ∧ t.1 29 3 = s.1 29 3 + ((PR m).length : Int) ∧ dv_c t (dv_in (PR m) (dz_hs F) c) (t.1 29 3) k') (c_dz_head hsL (d + 1) (by omega)) (c_dv_body hsL (d + 1) (by omega)) (c_dv_mark hsL (d + 1) (by omega)) (c_dv_push46 hsL (d + 1) (by omega)) (fun _ K hK => ?_) (fun K hK => ?_) (fun kp hkp hb _ K hK => ?_) (fun kp hkp hb hI3 K hK => ?_) (fun kp hkp => ?_) (fun kp k' t ht => ?_) g1 (dv_at_z hA) (by omega) (by omega) q4 ⟨x0, by omega⟩ rfl (by omega) (fun he => hK0 ?_) (fun hne kp hkp hb he => ?_) (fun hne kp hkp hb he t ht => ?_) (fun hne kp hkp hb he => ?_) (fun hne kp hkp hb he k' t ht t' u1 u2 u3 => ?_))
  · exact c_dv_alw hsL (d + 1) (by omega) _ _ F c _ s K g1 (dv_at_z hA) q6 q11 q12 hc (Int.le_refl _) (fun z z0 z1 z2 => hK z ⟨⟨z0, z1⟩, z2⟩)
  · exact c_dv_ala hsL (d + 1) (by omega) _ (rf_len F) s K g1 (dv_at_z hA) q11 q12 hK
  · have hx : S.2.2.2.1 m = none := by
      rcases bm with ⟨q, _⟩ | ⟨B, _, q, _⟩
      · exact q
      · have := dv_at_z q
        omega
    refine c_dv_nar hsL (d + 1) (by omega) _ kp m F s K g1 (dv_at_z hA) (by have := hkp.1; omega) ⟨q4, x0, by omega⟩ q6 q11 q12 (by omega) ?_ (fun v hv => q15 v (by rw [q13]; exact hv)) (fun t Fn t1 t2 t3 => hK t ⟨Fn, t1, t2, t3⟩)
    have o1' := vx_op_1 hx
    have sa := vx_sm_at (f := fun u => vx_op S u * (vx_aa S u * (vx_aa S u + 1) / 2)) (x := m) (n := S.1.toNat) x0 (by omega)
    try dsimp only at sa
    rw [o1'.1, Nat.one_mul] at sa
    have ea : vx_aa S m = rf_len F := by unfold vx_aa; omega
    rw [ea] at sa
    have : rf_len F ≤ rf_len F * (rf_len F + 1) / 2 := by
      have h4 : rf_len F = 0 ∨ rf_len F = 1 ∨ rf_len F = 2 ∨ rf_len F = 3 ∨ rf_len F = 4 := by omega
      rcases h4 with h4 | h4 | h4 | h4 | h4 <;> rw [h4] <;> decide
    omega
  · rcases bm with ⟨_, q⟩ | ⟨B, bm1, bm2, bm3, bm4, bm5, bm6⟩
    · omega
    · have hPl : ((PR m).length : Int) ≤ (vx_aa S m : Int) := by
        have n1 : ((PR m).map Prod.snd).length ≤ (S.2.2.1 m).toNat := vx_ls_1 bm6 (fun x hx => by
          obtain ⟨q, hq1, hq2⟩ := List.mem_map.mp hx
          have := bm4 q hq1
          rw [← hq2]
          omega)
        rw [List.length_map] at n1
        unfold vx_aa
        omega
      have ha4 : vx_aa S m ≤ 4 := by unfold vx_aa; omega
      exact c_dv_ins hsL (d + 1) (by omega) a0 a1 (s.1 29 3) m F (PR m) c (s.1, sx_ua s.2.1 53 m.toNat (dv_and (s.2.1 53 m.toNat) kp), s.2.2) K hI3 (dv_at_z hA) ⟨q4, x0, by omega⟩ q6 bm3 (fun q hq => by have := bm4 q hq; omega) (by omega) hc (Int.le_refl _) (by show s.1 29 3 + _ ≤ 1024; omega) (fun z t t1 t2 t3 t4 t5 => hK z t ⟨t1, t2, t3, t4, t5⟩)
  · have := hkp.1
    omega
  · obtain ⟨y1, y2, y3, y4, y5⟩ := ht
    have r5 := dv_ch_rng y5
    have y6 := y1.fld 29 3 (by decide) rfl
    refine ⟨y1, by omega, ?_⟩
    rw [(y2.same 46 rfl).1]
    show s.1 46 6 < 512
    omega
  · rw [f7] at he
    have hns := vx_Kn_self (S := S) (al := AL) (L := L) (u := sf) (j := j0) (F := F0) (e := e0) (B := root.1) (d := root.2) hrs (j' := j) (F' := F) (e' := dv_lk c) (pend := ws.map dv_kf) (by rw [hpf, he] at hKn; exact hKn)
    exact vx_J_no g8 hQ (by rw [hpf]; exact hns)
  · have hx : S.2.2.2.1 m = none := by
      rcases bm with ⟨q, _⟩ | ⟨B, _, q, _⟩
      · exact q
      · have := dv_at_z q
        omega
    rw [f7] at hne
    refine same S PR tm (vx_H_drop (vx_O_open hx hne (fun y hy => ?_)) hH)
    obtain ⟨i, e1, e2⟩ := List.getElem_of_mem hy
    refine (alw kp hkp.2 i y (by rw [List.getElem?_eq_getElem e1, e2])).mp ?_
    rw [he, dv_tb_all (by omega) (by omega), decide_eq_true (by omega)]
  · have hx : S.2.2.2.1 m = none := by
      rcases bm with ⟨q, _⟩ | ⟨B, _, q, _⟩
      · exact q
      · have := dv_at_z q
        omega
    rw [f7] at hne
    obtain ⟨Fn, t1', t2', t3'⟩ := ht
    have hlt : ∃ i, i < (S.2.2.2.2 j).length ∧ dv_tb kp i = false := by
      apply Classical.byContradiction
      intro hne'
      refine he (dv_tb_eq hkp.1.1 (by have := hkp.1; omega) (by omega) (by omega) (fun i hi => ?_))
      rw [dv_tb_all (by omega) hi]
      by_cases hl : i < rf_len F
      · rw [decide_eq_true hl]
        cases hq : dv_tb kp i with
        | true => rfl
        | false => exact absurd ⟨i, by omega, hq⟩ hne'
      · rw [decide_eq_false hl]
        exact dv_tb_hi hkp.1.2 (by omega)
    have hal := alw kp hkp.2
    obtain ⟨T, PR', tm', eu, zs, ks, jn, n1, n2, n3, n4, n5, hG'⟩ := dv_G_nw (ps' := [p]) hG hA i1 (vx_ty_call t1) hx t3' hlt t1' t2' (fun T eu zs ks jn n1 n2 => vx_Kn_nw g8 W n1 hQ inp l1 (fun i y hy ha => (n2 i (by obtain ⟨hi, _⟩ := List.getElem?_eq_some_iff.mp hy; exact hi)).mpr ((hal i y hy).mpr ha)) hKn)
    have hle := vx_nw_le n1
    have e53 : t.2.1 53 = s.2.1 53 := (t2'.same 53 rfl).2
    have e54 : t.2.1 54 = s.2.1 54 := (t2'.same 54 rfl).2
    have e38 : t.1 38 = s.1 38 := (t2'.same 38 rfl).1
    have e29 : t.1 29 = s.1 29 := (t2'.same 29 rfl).1
    have e46 : t.1 46 = s.1 46 := (t2'.same 46 rfl).1
    have esn : dv_sn t = dv_sn s := by
      funext y
      unfold dv_sn
      rw [e53]
    have ese : dv_se t = dv_se s := by
      funext y z
      unfold dv_se
      rw [e53]
    have eal : ∀ v, dv_al t v ↔ AL v := fun v => by
      rw [← fal v]
      unfold dv_al
      rw [e38, e54]
    obtain ⟨⟨_, hT2, _⟩, _⟩ := (hG' trivial).2.1 trivial
    have hsf : sf < S.1 := by
      have := o4.1 sf (by rw [hpf]; exact Or.inl ⟨rfl, rfl⟩)
      exact this.2
    have hbsf : T.2.2.2.1 sf = none := by
      obtain ⟨_, _, _, nd, _⟩ := n1
      rw [nd, if_neg (fun q => hne q.symm)]
      exact o1
    refine hK1 t T PR' tm' ws (by first | exact n2 | exact n3 | exact n4 | exact n5) (fun _ => ⟨hG', ⟨?_, by rw [e46]; exact w2⟩, ⟨by rw [e38]; exact f7, by rw [e38]; exact f12, L0, eal⟩, by rw [e53]; exact hse, ⟨?_, vx_Kn_drop (vx_Kn_le W hle ⟨o4, o5⟩ (fun q hq => ins q (List.mem_cons_of_mem _ hq)) hKn)⟩, dv_ks_le W hle n5 n4 hks, ⟨hbsf, o2, ⟨vx_in_le hle o3, vx_in_le hle o4, vx_in_le hle o5⟩, fun _ h => absurd h List.not_mem_nil⟩, hbs, by rw [e29]; exact hmk, hmks, ?_, vx_2_le hle n5 n4 h2p⟩) (rt0 T) (fun _ => ⟨cx_F_step t2' rfl (cx_F_refl _ _), fun _ => ⟨by rw [e29]; exact hmk, fun i _ => by rw [(t2'.same 30 rfl).2, (t2'.same 31 rfl).2, (t2'.same 32 rfl).2]; exact ⟨rfl, rfl, rfl⟩⟩, vx_nw_l2 n1, n3, ⟨M2, hT2⟩, e54, (t3' trivial).2.2.2.2.2.2.2⟩) ?_
    · rw [e29]
      refine dv_ws_fr (Int.le_refl _) n3 (fun i _ => ?_) (fun i _ => ?_) w1
      · rw [(t2'.same 30 rfl).2, (t2'.same 31 rfl).2, (t2'.same 32 rfl).2]
        exact ⟨rfl, rfl, rfl⟩
      · rw [(t2'.same 47 rfl).2, (t2'.same 48 rfl).2, (t2'.same 51 rfl).2, (t2'.same 52 rfl).2]
        exact ⟨rfl, rfl, rfl, rfl⟩
    · rw [esn, ese]
      exact vx_H_nw W n1 hne hsf ins (fun i y hy hi => (hal i y hy).mp ((n2 i (by obtain ⟨hi', _⟩ := List.getElem?_eq_some_iff.mp hy; exact hi')).mp hi)) hH
    · refine dv_ps_fr (Int.le_refl _) n3 (fun i _ => ?_) (fun i _ => ?_) hps
      · rw [(t2'.same 30 rfl).2, (t2'.same 31 rfl).2, (t2'.same 32 rfl).2]
        exact ⟨rfl, rfl, rfl⟩
      · rw [(t2'.same 40 rfl).2, (t2'.same 41 rfl).2, (t2'.same 42 rfl).2, (t2'.same 43 rfl).2, (t2'.same 44 rfl).2, (t2'.same 45 rfl).2]
        exact ⟨rfl, rfl, rfl, rfl, rfl, rfl⟩
    · unfold dv_ms dv_cs
      rw [e53]
      omega
  · have hk16 : kp < 16 := by have := hkp.1; omega
    have h53 := hse m.toNat rm.2
    have hand := dv_tb_and h53.1 h53.2 hkp.1.1 (by omega)
    have hsn : dv_sn s m := ⟨by omega, fun q => by
      have b4 := hand.2 4 (by omega)
      rw [he, q] at b4
      have t1 : dv_tb 31 4 = true := by decide
      have t2 : dv_tb kp 4 = false := dv_tb_hi (j := 4) (by show kp < 16; exact hk16) (Nat.le_refl _)
      rw [t1, t2] at b4
      exact absurd b4 (by decide)⟩
    refine same S PR tm (vx_H_skip hsn (fun i hi z hz => ?_) hH)
    have hi2 : dv_tb (s.2.1 53 m.toNat) i = true := by
      have := hi.2
      rw [Int.toNat_natCast] at this
      exact this
    obtain ⟨hil, _⟩ := List.getElem?_eq_some_iff.mp hz
    have b := hand.2 i (by omega)
    rw [he, hi2] at b
    have b' : dv_tb kp i = true := by
      cases hq : dv_tb kp i with
      | true => rfl
      | false =>
        rw [hq] at b
        exact absurd b (by decide)
    exact (alw kp hkp.2 i z hz).mp b'
  · rcases bm with ⟨_, q⟩ | ⟨B, bm1, bm2, bm3, bm4, bm5, bm6⟩
    · omega
    · obtain ⟨y1, y2, y3, y4, y5⟩ := ht
      have hB : vx_sg B := by
        obtain ⟨a, b, cc, dd, ee, _⟩ := bm2
        exact ⟨a, b, cc, dd, ee⟩
      have hPl : ((PR m).length : Int) ≤ (vx_aa S m : Int) := by
        have n1 : ((PR m).map Prod.snd).length ≤ (S.2.2.1 m).toNat := vx_ls_1 bm6 (fun x hx => by
          obtain ⟨q, hq1, hq2⟩ := List.mem_map.mp hx
          have := bm4 q hq1
          rw [← hq2]
          omega)
        rw [List.length_map] at n1
        unfold vx_aa
        omega
      have hk16 : kp < 16 := by have := hkp.1; omega
      have h53 := hse m.toNat rm.2
      have hand := dv_tb_and h53.1 h53.2 hkp.1.1 (by omega)
      have hF1 : cx_F [(29, 33), (38, 38), (46, 54)] s t' := cx_F_step u2 rfl (cx_F_step y2 rfl (cx_F_ua rfl (cx_F_refl _ _)))
      have hF2 : cx_F [(11, 17), (29, 37), (46, 54)] s t' := cx_F_step u2 rfl (cx_F_step y2 rfl (cx_F_ua rfl (cx_F_refl _ _)))
      have e53 : t'.2.1 53 = fun i => if i = m.toNat then dv_and (s.2.1 53 m.toNat) kp else s.2.1 53 i := by
        rw [(u2.same 53 rfl).2, (y2.same 53 rfl).2]
        show sx_ua s.2.1 53 m.toNat (dv_and (s.2.1 53 m.toNat) kp) 53 = _
        exact sx_ua_same _ _ _ _
      have ua : ∀ q, q ≠ 53 → sx_ua s.2.1 53 m.toNat (dv_and (s.2.1 53 m.toNat) kp) q = s.2.1 q := fun q hq => sx_ua_ne hq
      have e54 : t'.2.1 54 = s.2.1 54 := by
        rw [(u2.same 54 rfl).2, (y2.same 54 rfl).2]
        exact ua 54 (by decide)
      have e38 : t'.1 38 = s.1 38 := by rw [(u2.same 38 rfl).1, (y2.same 38 rfl).1]
      have e33 : t'.1 33 = s.1 33 := by rw [(u2.same 33 rfl).1, (y2.same 33 rfl).1]
      have e29 : t'.1 29 3 = t.1 29 3 := by rw [(u2.same 29 rfl).1]
      have e46 : t.1 46 6 = s.1 46 6 := by rw [(y2.same 46 rfl).1]
      have lk0 : ∀ i : Nat, t'.2.1 30 i = t.2.1 30 i ∧ t'.2.1 31 i = t.2.1 31 i ∧ t'.2.1 32 i = t.2.1 32 i := fun i => by
        rw [(u2.same 30 rfl).2, (u2.same 31 rfl).2, (u2.same 32 rfl).2]
        exact ⟨rfl, rfl, rfl⟩
      have lf : dv_lf s t' := fun _ => ⟨by omega, fun i hi => by
        obtain ⟨p1, p2, p3⟩ := lk0 i
        obtain ⟨p4, p5, p6⟩ := (y3 trivial).2 i hi
        refine ⟨p1.trans (p4.trans ?_), p2.trans (p5.trans ?_), p3.trans (p6.trans ?_)⟩
        · exact congrFun (ua 30 (by decide)) i
        · exact congrFun (ua 31 (by decide)) i
        · exact congrFun (ua 32 (by decide)) i⟩
      have nf : dv_nf (s.1 11 6) S.2.2.2.2 S.2.2.2.2 s t' := dv_nf_F _ hF1 (by decide)
      obtain ⟨x1', x2', x3'⟩ := dv_in_lk (c := c) (P := PR m) (hs := S.2.2.2.2 j) bm5 (fun q hq => by have := bm4 q hq; omega)
      obtain ⟨p1, p2, p3, p4, p5, p6, p7, p8⟩ := u3 trivial
      have ix : (t.1 46 6).toNat = ws.length := by omega
      rw [ix] at p3 p4 p5 p6 p7 p8
      have t314 : dv_tb 31 4 = true := by decide
      have kp4 : dv_tb kp 4 = false := dv_tb_hi (j := 4) (by show kp < 16; exact hk16) (Nat.le_refl _)
      have hne31 : dv_and (s.2.1 53 m.toNat) kp ≠ 31 := fun q => by
        have b4 := hand.2 4 (by omega)
        rw [q, t314, kp4, Bool.and_false] at b4
        exact absurd b4 (by decide)
      have esn : dv_sn t' = fun x => x = m ∨ dv_sn s x := by
        funext x
        unfold dv_sn
        rw [e53]
        dsimp only
        by_cases q : x = m
        · rw [if_pos (by rw [q])]
          exact propext ⟨fun _ => Or.inl q, fun _ => ⟨by omega, hne31⟩⟩
        · refine propext ⟨fun h => Or.inr ⟨h.1, ?_⟩, fun h => ?_⟩
          · have h2 := h.2
            rw [if_neg (by have := h.1; omega)] at h2
            exact h2
          · rcases h with h | h
            · exact absurd h q
            · refine ⟨h.1, ?_⟩
              rw [if_neg (by have := h.1; omega)]
              exact h.2
      have hrm : root.1 ≠ rf_n j 3 m F .leaf := fun e1 => by
        rcases hRT j m F e1 with q | ⟨_, q⟩
        · cases q
        · rw [bm1] at q
          cases q
      have nl : ∀ v, v < 0 → ¬ AL v := fun v hv ha => by
        rcases (fal v).mpr ha with q | ⟨q, _⟩
        · omega
        · omega
      have hal := alw kp hkp.2
      have eal : ∀ v, dv_al t' v ↔ AL v := fun v => by
        rw [← fal v]
        unfold dv_al
        rw [e38, e54]
      have hc1' := vx_c1_in (u' := t.1 29 3) g4 hB bm1 (by omega) hc1
      have hzB := (vx_c1_bd hrk W g4 hbs hc1').2.2.2
      refine hK1 t' S PR tm (((B, dv_in (PR m) (S.2.2.2.2 j) c), a2, t.1 29 3) :: ws) (fun _ _ _ => rfl) (fun _ => ⟨dv_G_F hG u1 hF1 (by rw [e33]) lf g8, ⟨⟨⟨by show t.1 29 3 ≤ t'.1 29 3; omega, by show 0 ≤ t.1 29 3; omega⟩, ⟨?_, ?_⟩, ⟨p7, p8⟩, ?_⟩, ?_⟩, ⟨by rw [e38]; exact f7, by rw [e38]; exact f12, L0, eal⟩, fun i hi => ?_, ⟨?_, ?_⟩, ⟨⟨⟨lt, ty, ?_⟩, hLa, hc1'⟩, hks⟩, ⟨o1, o2, ⟨o3, o4, o5⟩, fun _ h => absurd h List.not_mem_nil⟩, hbs, by omega, fun k hk => ?_, dv_ps_fr (Int.le_refl _) nf (fun i hi => (lf trivial).2 i (by omega)) (fun i _ => by rw [(hF1.same 40 rfl).2, (hF1.same 41 rfl).2, (hF1.same 42 rfl).2, (hF1.same 43 rfl).2, (hF1.same 44 rfl).2, (hF1.same 45 rfl).2]; exact ⟨rfl, rfl, rfl, rfl, rfl, rfl⟩) hps, h2p⟩) (fun j1 m1 F1 e1 => ?_) (fun _ => ⟨hF2, fun _ => ⟨by omega, fun i hi => (lf trivial).2 i (by omega)⟩, vx_l2_refl S, nf, ⟨M2, by rw [(hF1.same 11 rfl).1]; exact M2⟩, e54, congrFun (hF1.same 11 rfl).1 8, (hF1.same 17 rfl).2⟩) ?_
      · rw [p3]
        exact dv_at_fr (Int.le_refl _) nf bm2
      · rw [p4, q13]
        exact dv_ch_fr (fun i _ => lk0 i) y5
      · refine dv_ws_hi (by show s.1 29 3 ≤ t.1 29 3; omega) (dv_ws_fr (Int.le_refl _) nf (fun i hi => (lf trivial).2 i hi) (fun i hi => ?_) w1)
        obtain ⟨r1, r2, _, _, r5, r6⟩ := p2 i (by omega)
        refine ⟨r1.trans ?_, r2.trans ?_, r5.trans ?_, r6.trans ?_⟩
        · rw [(y2.same 47 rfl).2]
          exact congrFun (ua 47 (by decide)) i
        · rw [(y2.same 48 rfl).2]
          exact congrFun (ua 48 (by decide)) i
        · rw [(y2.same 51 rfl).2]
          exact congrFun (ua 51 (by decide)) i
        · rw [(y2.same 52 rfl).2]
          exact congrFun (ua 52 (by decide)) i
      · rw [List.length_cons]
        omega
      · rw [e53]
        dsimp only
        by_cases q : i = m.toNat
        · rw [if_pos q]
          exact hand.1
        · rw [if_neg q]
          exact hse i hi
      · rw [esn]
        refine vx_H_body (kp := fun i => 0 ≤ i ∧ dv_tb kp i.toNat = true) (e' := dv_lk (dv_in (PR m) (S.2.2.2.2 j) c)) bm1 x1' (fun z hz => by rw [x2' z hz]; exact nl _ (by omega)) x3' (fun i y hy => ?_) (fun i hi hs => ?_) (fun x i hx hi => ?_) hH
        · have := hal i y hy
          rw [← this]
          exact ⟨fun h => h.2, fun h => ⟨by omega, h⟩⟩
        · refine ⟨⟨x0, hi.1⟩, ?_⟩
          rw [e53]
          dsimp only
          rw [if_pos rfl]
          have hi5 : i.toNat < 5 := by
            apply Classical.byContradiction
            intro hge
            have := dv_tb_hi (k := kp) (j := 4) (i := i.toNat) (by show kp < 16; exact hk16) (by omega)
            rw [this] at hi
            exact absurd hi.2 (by decide)
          rw [hand.2 _ hi5, hi.2, Bool.and_true]
          by_cases q : s.2.1 53 m.toNat = 31
          · rw [q]
            have : ∀ n : Fin 5, dv_tb 31 n.val = true := by decide
            exact this ⟨i.toNat, hi5⟩
          · exact (hs ⟨by omega, q⟩).2
        · refine ⟨hi.1, ?_⟩
          rw [e53]
          dsimp only
          by_cases q : x.toNat = m.toNat
          · exact absurd (by have := hi.1; omega) hx
          · rw [if_neg q]
            exact hi.2
      · exact vx_Kn_body hrm bm1 x1' x3' hKn
      · exact vx_sd_body g3 bm1 q14 s1
      · rcases List.mem_cons.mp hk with rfl | hk
        · show mk0 ≤ t.1 29 3
          omega
        · exact hmks k hk
      · rcases hRT j1 m1 F1 e1 with q | ⟨q, q'⟩
        · cases q
        · injection q with q1 _
          rw [← q1] at e1
          exact absurd q1.symm (fun q2 => hrm (by rw [q2]))
      · have up := vx_sm_up (f := fun x => dv_cd (t'.2.1 53 x.toNat)) (g := fun x => dv_cd (s.2.1 53 x.toNat)) (x := m) (n := 32) x0 (by omega) (fun i hi hx => by
          try dsimp only
          rw [e53]
          try dsimp only
          rw [if_neg (by omega)])
        have lt' := dv_cd_lt h53.1 h53.2 hkp.1.1 (by omega) he
        try dsimp only at up
        rw [e53] at up
        try dsimp only at up
        rw [if_pos rfl] at up
        have z1 : dv_hz (((B, dv_in (PR m) (S.2.2.2.2 j) c), a2, t.1 29 3) :: ws) = vx_hz B + dv_hz ws := rfl
        unfold dv_ms dv_cs
        rw [z1, e53]
        try dsimp only
        omega
end
section
/-! ===== the types of the unknowns stay: a step of the walk ===== -/
theorem dx_WK_F {tv tc : Int → rf_T} {n0 : Int} {Qs : (Int → rf_N) → Prop} {p : vx_P} {root : rf_N × (Int → Int)} {r : List dv_E} {sf L : Int} {AL : Int → Prop} {bs : Nat} {mk0 : Int} {cL cR : List (Int × Int)} {s u : sx_S} {S : vx_S} {PR : Int → List (Int × Int)} {tm : Int → Int → rf_T} {cur cur' : List (rf_N × (Int → Int))} {ws ws' : List dv_K} (h : dv_WK tv tc n0 Qs p root r sf L AL bs mk0 cL cR s S PR tm cur ws) (hI : cx_I u) (hF : cx_F [(29, 32), (46, 52)] s u) (hl : dv_lm mk0 s u) (hws : dv_ws u S.2.2.2.2 (u.1 29 3) ws') (h46 : u.1 46 6 = (ws'.length : Int)) (hH : vx_H S sf AL (dv_sn s) (dv_se s) (cur' ++ ws'.map dv_kf) root) (hKn : vx_Kn S AL p root (cur' ++ ws'.map dv_kf)) (hks : dv_ks tv tc tm S bs L ws') (hin : ∀ q ∈ cur', vx_in S q.1) (hm : ∀ k ∈ ws', mk0 ≤ k.2.2) : dv_WK tv tc n0 Qs p root r sf L AL bs mk0 cL cR u S PR tm cur' ws' ∧ dx_WF mk0 s u S S := by
  obtain ⟨v1, v2⟩ := dv_WK_F h hI hF hl hws h46 hH hKn hks hin hm
  exact ⟨v1, dx_WF_mk v2 (dx_v_F hF (by decide))⟩
theorem c_dx_fs {tv tc : Int → rf_T} {n0 : Int} {Qs : (Int → rf_N) → Prop} {p : vx_P} {root : rf_N × (Int → Int)} {r : List dv_E} {sf L : Int} {AL : Int → Prop} {bs : Nat} {mk0 : Int} {cL cR : List (Int × Int)} {j0 : Nat} {F0 : rf_N} {e0 : Int → Int} {sL : Nat} {sx : Nat → Int32} (hsL : sL ≤ 3072) (d : Nat) (hd : 6 ≤ d) (hQ : ∀ th th', vx_ag n0 th th' → Qs th → Qs th') (hpf : p = ((rf_n j0 3 sf F0 .leaf, e0), root, L)) (hrs : ∀ j F, root.1 ≠ rf_n j 3 sf F .leaf) : ∀ (S : vx_S) (PR : Int → List (Int × Int)) (tm : Int → Int → rf_T) (k : dv_K) (ws : List dv_K) (s : sx_S) (K : Int → sx_S → Prop), dv_WK tv tc n0 Qs p root r sf L AL bs mk0 cL cR s S PR tm [] (k :: ws) → dv_RT root S ((k :: ws).map dv_kf) → (∀ u, cx_I u → cx_F [(11, 17), (29, 37), (46, 54)] s u → vx_NO n0 Qs S → K 0 u) → (∀ u S' PR' tm' ws', dx_tm S tm tm' → dv_WK tv tc n0 Qs p root r sf L AL bs mk0 cL cR u S' PR' tm' [] ws' → dv_RT root S' (ws'.map dv_kf) → dx_WF mk0 s u S S' → dv_ms u ws' < dv_ms s (k :: ws) → K 1 u) → sx_C sL sx d 80 [.inr (.inl 38)] s K := by
  intro S PR tm k ws s K hWK hRT hK0 hK1
  obtain ⟨hG, ⟨⟨⟨w1, w2⟩, ⟨w3, w4⟩, ⟨w5, w6⟩, w7⟩, w8⟩, ⟨f7, f12, L0, fal⟩, hse, ⟨hH, hKn⟩, ⟨⟨k1, k2, k3⟩, k4⟩, ⟨o1, o2, ⟨o3, o4, o5⟩, _⟩, hbs, hmk, hmks, hps, _⟩ := hWK trivial
  obtain ⟨g1, g2, g3, g4, ⟨g5, g6⟩, g7, g8⟩ := hG trivial
  obtain ⟨⟨W, B1, Sc, rk, hrk⟩, TS⟩ := g3 trivial
  rw [List.length_cons] at w8
  have en : (s.1 46 6 - 1).toNat = ws.length := by omega
  have n0S : n0 ≤ S.1 := g8.2.2.1
  have mkk := hmks k List.mem_cons_self
  have msk : dv_ms s (k :: ws) = vx_hz k.1.1 + dv_ms s ws := by
    unfold dv_ms
    show vx_hz k.1.1 + dv_hz ws + _ = _
    omega
  obtain ⟨d, rfl⟩ : ∃ e, d = e + 2 := ⟨d - 2, by omega⟩
  refine sx_methL (wr := true) (n := 400) (n' := 400) (stop := [(48, [0, 1, 2, 3, 4]), (168, [0, 1, 2, 3, 4])]) (fun nn pc ls u => (pc = 48 ∧ ∃ (z cc L' : Int) (x4 : Nat) (A : rf_N) (c : List (Int × Int)), ls = [(0, .inr (.inl 38)), (1, .inl z), (2, .inl cc), (3, .inl L'), (4, .inl (x4 : Int))] ∧ dv_WK tv tc n0 Qs p root r sf L AL bs mk0 cL cR u S PR tm [(A, dv_lk c)] ws ∧ dv_RT root S ((A, dv_lk c) :: ws.map dv_kf) ∧ dx_WF mk0 s u S S ∧ u.2.1 53 = s.2.1 53 ∧ dv_at u S.2.2.2.2 A z ∧ dv_c u c (u.1 29 3) cc ∧ (∃ lt t, vx_sd tv tc tm S lt L' t A c) ∧ L ≤ L' ∧ vx_c1 S bs A (u.1 29 3) L' ws.length ∧ vx_hz A ≤ vx_hz k.1.1 ∧ x4 + vx_lh A ≤ 67 ∧ nn = 100 + vx_lh A) ∨ (pc = 168 ∧ ∃ (z cc L' x4 : Int) (j : Nat) (kk h : Int) (F : rf_N) (c : List (Int × Int)) (v : sx_S), ls = [(0, .inr (.inl 38)), (1, .inl z), (2, .inl cc), (3, .inl L'), (4, .inl x4)] ∧ dv_WK tv tc n0 Qs p root r sf L AL bs mk0 cL cR v S PR tm [(rf_n j kk h F .leaf, dv_lk c)] ws ∧ dv_RT root S ((rf_n j kk h F .leaf, dv_lk c) :: ws.map dv_kf) ∧ dx_WF mk0 s v S S ∧ v.2.1 53 = s.2.1 53 ∧ dv_at v S.2.2.2.2 (rf_n j kk h F .leaf) z ∧ dv_c v c (v.1 29 3) cc ∧ (∃ lt t, vx_sd tv tc tm S lt L' t (rf_n j kk h F .leaf) c) ∧ L ≤ L' ∧ vx_c1 S bs (rf_n j kk h F .leaf) (v.1 29 3) L' ws.length ∧ vx_hz (rf_n j kk h F .leaf) ≤ vx_hz k.1.1 ∧ (kk = 1 ∨ kk = 2) ∧ (kk = 2 → AL (dv_lk c h)) ∧ (-1 ≤ x4 ∧ x4 < (rf_len F : Int)) ∧ cx_I u ∧ cx_F [(46, 52)] v u ∧ dv_ws u S.2.2.2.2 (u.1 29 3) ((dv_wz F c L' (v.1 29 3)).drop (x4 + 1).toNat ++ ws) ∧ u.1 46 6 + x4 + 1 = (ws.length : Int) + (rf_len F : Int) ∧ nn = (x4 + 1).toNat)) hsL (e := eX6_fitStep) rfl ?_ ?_
  · refine w_dv_fs (c_dv_pop46 hsL (d + 1) (by omega)) (c_dv_pmark46 hsL (d + 1) (by omega)) (c_dv_rel hsL (d + 1) (by omega)) (c_dv_pnode46 hsL (d + 1) (by omega)) (c_dv_pchain46 hsL (d + 1) (by omega)) (c_dv_plevel46 hsL (d + 1) (by omega)) g1 (by omega) (by rw [en, w6]; omega) (fun u u1 u2 u3 u4 => ?_)
    rw [en] at u4 ⊢
    rw [w6] at u4
    have nf : dv_nf (s.1 11 6) S.2.2.2.2 S.2.2.2.2 s u := dv_nf_F _ u2 (by decide)
    have lk : ∀ i : Nat, u.2.1 30 i = s.2.1 30 i ∧ u.2.1 31 i = s.2.1 31 i ∧ u.2.1 32 i = s.2.1 32 i := fun i => by
      rw [(u2.same 30 rfl).2, (u2.same 31 rfl).2, (u2.same 32 rfl).2]
      exact ⟨rfl, rfl, rfl⟩
    have sws : dv_ws u S.2.2.2.2 (u.1 29 3) ws := by
      rw [u4]
      refine dv_ws_fr (Int.le_refl _) nf (fun i _ => lk i) (fun i _ => ?_) w7
      rw [(u2.same 47 rfl).2, (u2.same 48 rfl).2, (u2.same 51 rfl).2, (u2.same 52 rfl).2]
      exact ⟨rfl, rfl, rfl, rfl⟩
    obtain ⟨lt, ty, k1'⟩ := k1
    obtain ⟨v1, v2⟩ := dx_WK_F (cur' := [dv_kf k]) (ws' := ws) hWK u1 (cx_F_step u2 rfl (cx_F_refl _ _)) (fun _ => ⟨by omega, fun i _ => lk i⟩) sws (by omega) hH hKn k4 (fun q hq => by rw [List.mem_singleton.mp hq]; exact (k1' trivial).1.1) (fun q hq => hmks q (List.mem_cons_of_mem _ hq))
    refine ⟨_, Or.inl ⟨rfl, _, _, _, 0, k.1.1, k.1.2, rfl, v1, hRT, v2, (u2.same 53 rfl).2, dv_at_fr (Int.le_refl _) nf w3, by rw [u4]; exact dv_ch_fr (fun i _ => lk i) w4, ⟨lt, ty, by rw [w5]; exact k1'⟩, by rw [w5]; exact k2, by rw [u4, w5]; exact k3, Nat.le_refl _, ?_, rfl⟩⟩
    obtain ⟨_, _, ⟨q, _⟩, _⟩ := k3 trivial
    omega
  · rintro nn pc ls u (⟨rfl, z, cc, L', x4, A, c, rfl, i1, i2, i3, i4, i5, i6, ⟨lt, ty, i7⟩, i8, i9, i10, i11, rfl⟩ | ⟨rfl, z, cc, L', x4, j, kk, h, F, c, v, rfl, i1, i2, i3, i4, i5, i6, ⟨lt, ty, i7⟩, i8, i9, i10, i11, i12, i13, i14, i15, i16, i17, rfl⟩)
    · have gW := i1 trivial
      obtain ⟨hGu, ⟨x1, x2⟩, ⟨y7, y12, _, yal⟩, _, ⟨yH, yK⟩, yks, _, _, ymk, ymks, _⟩ := gW
      obtain ⟨z1, _⟩ := hGu trivial
      have h29 := z1.fld 29 3 (by decide) rfl
      have rc := dv_ch_rng i6
      have hAL : ∀ q, L ≤ q → AL q := fun q hq => (yal q).mp (Or.inl (by rw [y12]; exact hq))
      obtain ⟨b1, b2, b3, b4⟩ := vx_c1_bd hrk W g4 hbs i9
      obtain ⟨⟨in1, ⟨j, kk, h, F, rfl⟩, t1⟩, _, ⟨L'0, _⟩, _⟩ := i7 trivial
      obtain ⟨q1, q2, q3, q4, q5, q6, q7, q8, q9, q10⟩ := dv_at_hd i5
      by_cases hk0 : kk = 0
      · subst hk0
        obtain ⟨⟨e1, e2, e3⟩, e4⟩ := dv_at_lam i5
        have hF : vx_sg F := by
          obtain ⟨a, b, c', d', ee, _⟩ := e4
          exact ⟨a, b, c', d', ee⟩
        obtain ⟨l1, l2⟩ := vx_lh_lam (j := j) (x := h) (F := F)
        rw [l1] at i11 b1
        obtain ⟨B, _, sd'⟩ := vx_sd_lam hF i7
        refine w_dv_fs48y (c_dz_kind hsL (d + 1) (by omega)) (c_dz_head hsL (d + 1) (by omega)) (c_dz_body hsL (d + 1) (by omega)) (c_dv_with hsL (d + 1) (by omega)) z1 (dv_at_z i5) (by omega) (by omega) (by omega) e1 (by omega) (fun t u1 u2 u3 => ?_)
        rw [e2] at u3
        have p1 := (u3 trivial).1
        have lf := dv_w1_lf u3
        have nf : dv_nf (u.1 11 6) S.2.2.2.2 S.2.2.2.2 u t := dv_nf_F _ u2 (by decide)
        have sws : dv_ws t S.2.2.2.2 (t.1 29 3) ws := dv_ws_hi (lf trivial).1 (dv_ws_fr (Int.le_refl _) nf (lf trivial).2 (fun i _ => by
          rw [(u2.same 47 rfl).2, (u2.same 48 rfl).2, (u2.same 51 rfl).2, (u2.same 52 rfl).2]
          exact ⟨rfl, rfl, rfl, rfl⟩) x1)
        obtain ⟨v1, v2⟩ := dx_WK_F (cur' := [(F, dv_lk ((h, L') :: c))]) (ws' := ws) i1 u1 (cx_F_step u2 rfl (cx_F_refl _ _)) (fun _ => ⟨by omega, fun i hi => (lf trivial).2 i (by omega)⟩) sws (by rw [(u2.same 46 rfl).1]; exact x2) (by rw [dv_lk_up]; exact vx_H_lam (hAL L' i8) yH) (by rw [dv_lk_up]; exact vx_Kn_lam (hAL L' i8) yK) yks (fun q hq => by rw [List.mem_singleton.mp hq]; exact vx_in_lam in1) ymks
        refine ⟨100 + vx_lh F, by rw [l1]; omega, Or.inl ⟨rfl, u.2.1 14 z.toNat, u.1 29 3, L' + 1, x4 + 1, F, (h, L') :: c, rfl, v1, fun j1 m1 F1 e => ?_, dx_WF_t i3 v2, by rw [(u2.same 53 rfl).2]; exact i4, dv_at_fr (Int.le_refl _) nf e4, dv_w1_c h29.1 u3 (Int.le_refl _) i6, ⟨_, B, sd'⟩, by omega, by rw [p1]; exact vx_c1_lam i9, by rw [vx_hz_lam vx_03] at i10; omega, by omega, rfl⟩⟩
        rcases i2 j1 m1 F1 e with q | ⟨q, _⟩
        · cases q
        · injection q with qa _
          rw [← qa] at e
          injection e with _ eb
          exact absurd (Prod.mk.inj eb).1 vx_03
      · obtain ⟨q7a, q7b⟩ := q7 hk0
        refine w_dv_fs48n (lv := dv_lk c h) (G := fun z' t => (z' = 0 ∧ t = u ∧ vx_NO n0 Qs S) ∨ (z' = 1 ∧ ∃ S' PR' tm' ws', dx_tm S tm tm' ∧ dv_WK tv tc n0 Qs p root r sf L AL bs mk0 cL cR t S' PR' tm' [] ws' ∧ dv_RT root S' (ws'.map dv_kf) ∧ dx_WF mk0 u t S S' ∧ dv_ms t ws' < 1 + dv_ms u ws)) (c_dz_kind hsL (d + 1) (by omega)) (c_dz_head hsL (d + 1) (by omega)) (c_dz_arity hsL (d + 1) (by omega)) (c_dv_isu hsL (d + 1) (by omega)) (c_dv_isa hsL (d + 1) (by omega)) (fun hk K' hK' => ?_) (fun hk K' hK' => ?_) (fun z' t ht => ?_) z1 (dv_at_z i5) (by omega) (by omega) (by omega) (by rw [q3]; exact hk0) (dv_lk_rng z1 i6 _) (by rw [q7a]; omega) (fun hk z' t ht => ?_) (fun hk hna => ?_) (fun hk ha => ?_)
        · have r13 := z1.arr 13 (by decide) rfl z.toNat
          rw [q4] at r13 ⊢
          exact c_dv_of hsL (d + 1) (by omega) _ _ _ c _ _ z1 r13 i6 (Int.le_refl _) hK'
        · obtain rfl : kk = 3 := by rw [← q3]; exact hk
          exact c_dx_fu hsL (d + 1) (by omega) hQ hpf hrs S PR tm ws j h F c z cc L' u K' i1 i2 i5 i6 ⟨lt, ty, i7⟩ i8 i9 (fun hno => hK' 0 u (Or.inl ⟨rfl, rfl, hno⟩)) (fun t S' PR' tm' ws' a0 a1 a2 a3 a4 => hK' 1 t (Or.inr ⟨rfl, S', PR', tm', ws', a0, a1, a2, a3, a4⟩))
        · rcases ht with ⟨q, _⟩ | ⟨q, _⟩
          · exact Or.inl q
          · exact Or.inr q
        · obtain rfl : kk = 3 := by rw [← q3]; exact hk
          rcases ht with ⟨rfl, rfl, hno⟩ | ⟨rfl, S', PR', tm', ws', a0, a1, a2, a3, a4⟩
          · exact hK0 _ z1 (i3 trivial).1 hno
          · refine hK1 t S' PR' tm' ws' a0 a1 a2 (dx_WF_t i3 a3) ?_
            rw [vx_hz_call] at i10
            rw [dv_ms_e i4] at a4
            omega
        · obtain rfl : kk = 2 := by rw [← q3]; exact hk
          refine hK0 u z1 (i3 trivial).1 ?_
          exact vx_J_no g8 hQ (vx_Kn_var yK (fun q => hna ((yal _).mpr q)))
        · rw [q3] at hk ha
          refine ⟨rf_len F, by omega, Or.inr ⟨rfl, z, cc, L', _, j, kk, h, F, c, u, rfl, i1, i2, i3, i4, i5, i6, ⟨lt, ty, i7⟩, i8, i9, i10, by omega, fun q => (yal _).mp (ha q), by rw [q7a]; omega, z1, cx_F_refl _ _, ?_, by rw [q7a]; omega, by rw [q7a]; omega⟩⟩
          have e1 : (u.2.1 16 z.toNat - 1 + 1).toNat = rf_len F := by omega
          rw [e1, List.drop_of_length_le (by rw [dv_wz_len]; exact Nat.le_refl _)]
          exact x1
    · have gW := i1 trivial
      obtain ⟨hGu, ⟨x1, x2⟩, ⟨y7, y12, _, yal⟩, _, ⟨yH, yK⟩, yks, _, _, ymk, ymks, _⟩ := gW
      obtain ⟨z1, _⟩ := hGu trivial
      have h29 := z1.fld 29 3 (by decide) rfl
      have rc := dv_ch_rng i6
      obtain ⟨b1, b2, b3, b4⟩ := vx_c1_bd hrk W g4 hbs i9
      obtain ⟨⟨in1, _, t1⟩, _, ⟨L'0, _⟩, _⟩ := i7 trivial
      obtain ⟨q1, q2, q3, q4, q5, q6, q7, q8, q9, q10⟩ := dv_at_hd i5
      obtain ⟨q7a, q7b⟩ := q7 (by omega)
      have trF := q9 i11
      have hk0 : kk ≠ 0 := by omega
      have hk3 : kk ≠ 3 := by omega
      have nf : dv_nf (v.1 11 6) S.2.2.2.2 S.2.2.2.2 v u := dv_nf_F _ i15 (by decide)
      have e11 : u.1 11 = v.1 11 := (i15.same 11 rfl).1
      have e29 : u.1 29 = v.1 29 := (i15.same 29 rfl).1
      have lk : ∀ i : Nat, u.2.1 30 i = v.2.1 30 i ∧ u.2.1 31 i = v.2.1 31 i ∧ u.2.1 32 i = v.2.1 32 i := fun i => by
        rw [(i15.same 30 rfl).2, (i15.same 31 rfl).2, (i15.same 32 rfl).2]
        exact ⟨rfl, rfl, rfl⟩
      have zl := dv_wz_len (F := F) (c := c) (L := L') (mk := v.1 29 3)
      by_cases hx : 0 ≤ x4
      · have a3' : dz_nd u F (u.2.1 14 z.toNat) := by
          rw [(i15.same 14 rfl).2]
          exact dz_nd_fr q6 (nf trivial).1 (fun i hi => rf_nd_lt q6 i hi)
        have a8' : dv_tr (u.2.1 16) S.2.2.2.2 F := by rw [(i15.same 16 rfl).2]; exact trF
        obtain ⟨w, hw⟩ := dv_drx x4.toNat a3'
        obtain ⟨A, eA, tA⟩ := dv_el_at (by omega) a8' hw
        have hlt : x4.toNat < (dv_wz F c L' (v.1 29 3)).length := by omega
        have zat : (dv_wz F c L' (v.1 29 3))[x4.toNat]? = some ((A, c), L', v.1 29 3) := by
          unfold dv_wz
          rw [List.getElem?_map, eA]
          rfl
        have zdr : (dv_wz F c L' (v.1 29 3)).drop x4.toNat = ((A, c), L', v.1 29 3) :: (dv_wz F c L' (v.1 29 3)).drop (x4.toNat + 1) := by
          rw [List.drop_eq_getElem_cons hlt]
          rw [List.getElem?_eq_getElem hlt] at zat
          rw [Option.some.inj zat]
        have rlen : (((dv_wz F c L' (v.1 29 3)).drop (x4 + 1).toNat ++ ws).length : Int) = u.1 46 6 := by
          rw [List.length_append, List.length_drop, zl]
          omega
        refine w_dv_fs168 (w := w) (c_dv_mark hsL (d + 1) (by omega)) (c_dv_push46 hsL (d + 1) (by omega)) (fun _ K' hK' => ?_) i14 (by omega) (by omega) (by omega) (fun _ => dv_at_z tA) (fun _ => by omega) (fun q => absurd q (by omega)) (fun _ t u1 u2 u3 => ?_)
        · refine c_dz_arg hsL (d + 1) (by omega) _ _ F _ _ i14 (by have := dv_at_z i5; rw [e11]; exact this) (by omega) a3' (fun z' _ q' => ?_)
          rw [dv_nd1 q' hw]
          exact hK'
        · obtain ⟨s1, s2, s3, s4, s5, s6, s7, s8⟩ := u3 trivial
          have nf2 : dv_nf (u.1 11 6) S.2.2.2.2 S.2.2.2.2 u t := dv_nf_F _ u2 (by decide)
          have lk2 : ∀ i : Nat, t.2.1 30 i = u.2.1 30 i ∧ t.2.1 31 i = u.2.1 31 i ∧ t.2.1 32 i = u.2.1 32 i := fun i => by
            rw [(u2.same 30 rfl).2, (u2.same 31 rfl).2, (u2.same 32 rfl).2]
            exact ⟨rfl, rfl, rfl⟩
          have t29 : t.1 29 3 = v.1 29 3 := by rw [(u2.same 29 rfl).1, e29]
          have ix : (u.1 46 6).toNat = ((dv_wz F c L' (v.1 29 3)).drop (x4 + 1).toNat ++ ws).length := by omega
          rw [ix] at s3 s4 s5 s6 s7 s8
          have key : dv_ws t S.2.2.2.2 (t.1 29 3) (((A, c), L', v.1 29 3) :: ((dv_wz F c L' (v.1 29 3)).drop (x4 + 1).toNat ++ ws)) := by
            refine ⟨⟨by show v.1 29 3 ≤ t.1 29 3; omega, h29.1⟩, ⟨?_, ?_⟩, ⟨s7, ?_⟩, ?_⟩
            · rw [s3]
              exact dv_at_fr (Int.le_refl _) nf2 tA
            · rw [s4]
              exact dv_ch_fr (fun i _ => lk2 i) (dv_ch_fr (fun i _ => lk i) i6)
            · rw [s8]
              show u.1 29 3 = v.1 29 3
              rw [e29]
            · refine dv_ws_fr (Int.le_refl _) nf2 (fun i _ => lk2 i) (fun i hi => ?_) (by rw [e29] at i16; exact i16)
              obtain ⟨o1, o2, _, _, o5, o6⟩ := s2 i (by omega)
              exact ⟨o1, o2, o5, o6⟩
          refine ⟨x4.toNat, by omega, Or.inr ⟨rfl, z, cc, L', x4 - 1, j, kk, h, F, c, v, rfl, i1, i2, i3, i4, i5, i6, ⟨lt, ty, i7⟩, i8, i9, i10, i11, i12, by omega, u1, cx_F_step u2 rfl i15, ?_, by omega, by omega⟩⟩
          rw [show (x4 - 1 + 1).toNat = x4.toNat by omega, zdr, List.cons_append, show x4.toNat + 1 = (x4 + 1).toNat by omega]
          exact key
      · have ex : x4 = -1 := by omega
        refine w_dv_fs168 (w := 0) (c_dv_mark hsL (d + 1) (by omega)) (c_dv_push46 hsL (d + 1) (by omega)) (fun q => absurd q hx) i14 (by omega) (by omega) (by omega) (fun q => absurd q hx) (fun q => absurd q hx) (fun _ => ?_) (fun q => absurd q hx)
        rw [ex] at i16
        have i16' : dv_ws u S.2.2.2.2 (u.1 29 3) (dv_wz F c L' (v.1 29 3) ++ ws) := i16
        have tyF : ∃ uu, (vx_ty tv tc tm S.2.2.2.2 F).2 uu := by
          rcases t1 with ⟨q, _⟩ | ⟨_, _, q⟩ | ⟨_, _, q⟩ | ⟨q, _⟩
          · exact absurd q hk0
          · exact ⟨_, q⟩
          · exact ⟨_, q⟩
          · exact absurd q hk3
        obtain ⟨uu, tyF⟩ := tyF
        have hTy : ∀ A ∈ vx_el F, ∃ lt t, vx_sd tv tc tm S lt L' t A c := fun A hA => by
          obtain ⟨i, e1, e2⟩ := List.getElem_of_mem hA
          obtain ⟨_, g⟩ := vx_ty_el tyF tyF
          obtain ⟨t', h1, _⟩ := g i A A (by rw [List.getElem?_eq_getElem e1, e2]) (by rw [List.getElem?_eq_getElem e1, e2])
          exact ⟨lt, t', vx_sd_el hk0 hk3 hA h1 i7⟩
        have hMk : ∀ q ∈ dv_wz F c L' (v.1 29 3) ++ ws, mk0 ≤ q.2.2 := fun q hq => by
          rcases List.mem_append.mp hq with hq | hq
          · unfold dv_wz at hq
            obtain ⟨A, _, rfl⟩ := List.mem_map.mp hq
            exact ymk
          · exact ymks q hq
        obtain ⟨v1, v2⟩ := dx_WK_F (cur' := []) (ws' := dv_wz F c L' (v.1 29 3) ++ ws) i1 i14 (cx_F_step i15 rfl (cx_F_refl _ _)) (fun _ => ⟨by rw [e29]; exact ymk, fun i _ => lk i⟩) i16' (by rw [List.length_append, zl]; omega) (by rw [List.map_append, dv_wz_kf]; exact vx_H_rig hk0 hk3 i12 yH) (by rw [List.map_append, dv_wz_kf]; exact vx_Kn_rig hk0 hk3 yK) (dv_ks_wz i8 yks (by rw [vx_el_len]; exact q7b) (fun A hA => ⟨hTy A hA, fun i' hi' => vx_c1_el hk0 hk3 hA hi' i9⟩)) (fun _ hq => absurd hq List.not_mem_nil) hMk
        refine hK1 u S PR tm _ (fun _ _ _ => rfl) v1 (fun j1 m1 F1 e => ?_) (dx_WF_t i3 v2) ?_
        · rcases i2 j1 m1 F1 e with q | ⟨q, _⟩
          · cases q
          · injection q with qa _
            rw [← qa] at e
            injection e with _ eb
            exact absurd (Prod.mk.inj eb).1 hk3
        · have e53 : u.2.1 53 = s.2.1 53 := by rw [(i15.same 53 rfl).2]; exact i4
          rw [dv_ms_e e53]
          unfold dv_ms at msk ⊢
          rw [dv_wz_hz]
          rw [vx_hz_lam hk3] at i10
          omega
end
section
/-! ===== the types of the unknowns stay: meet, give, a step ===== -/
theorem dx_tm_t {S T : vx_S} {tm tm' tm'' : Int → Int → rf_T} (h : S.1 ≤ T.1) (h1 : dx_tm S tm tm') (h2 : dx_tm T tm' tm'') : dx_tm S tm tm'' := fun m i hm => (h2 m i (by omega)).trans (h1 m i hm)
/-- solving leaves what is loaded, and makes no variable -/
def dx_fr (s t : sx_S) : Prop := True → (dz_fr (fun j => (j : Int) < s.1 11 6) s t ∧ cx_F [(11, 17), (29, 54)] s t) ∧ dx_v s t
theorem dx_fr_w {s t : sx_S} (h : dx_fr s t) : dw_fr s t := fun _ => (h trivial).1
theorem dx_fr_refl (s : sx_S) : dx_fr s s := fun _ => ⟨dw_fr_refl s trivial, rfl, rfl⟩
theorem dx_fr_t {s u t : sx_S} (h1 : dx_fr s u) (h2 : dx_fr u t) : dx_fr s t := fun _ => ⟨dw_fr_t (dx_fr_w h1) (dx_fr_w h2) trivial, dx_v_t (h1 trivial).2 (h2 trivial).2⟩
theorem dx_fr_F {s u : sx_S} {W : List (Nat × Nat)} (h : cx_F W s u) (h0 : cx_F [(11, 17), (29, 54)] s u) (hw : (cx_outb W 11 = true ∧ cx_outb W 12 = true ∧ cx_outb W 13 = true ∧ cx_outb W 14 = true ∧ cx_outb W 15 = true ∧ cx_outb W 16 = true) ∧ cx_outb W 17 = true) : dx_fr s u := fun _ => ⟨dw_fr_F h h0 hw.1 trivial, dx_v_F h ⟨hw.1.1, hw.2⟩⟩
theorem c_dx_me {tv tc : Int → rf_T} {n0 : Int} {Qs : (Int → rf_N) → Prop} {sL : Nat} {sx : Nat → Int32} (hsL : sL ≤ 3072) (d : Nat) (hd : 4 ≤ d) (hQ : ∀ th th', vx_ag n0 th th' → Qs th → Qs th') : ∀ (S : vx_S) (PR : Int → List (Int × Int)) (tm : Int → Int → rf_T) (r : List dv_E) (j j' : Nat) (x : Int) (F F' : rf_N) (c e : List (Int × Int)) (L : Int) (s : sx_S) (K : Int → sx_S → Prop), dv_G tv tc n0 Qs s S PR tm [((rf_n j 3 x F .leaf, dv_lk c), (rf_n j' 3 x F' .leaf, dv_lk e), L)] r → dv_cu s S.2.2.2.2 (rf_n j 3 x F .leaf) c (rf_n j' 3 x F' .leaf) e L → vx_2 tv tc tm S (rf_n j 3 x F .leaf) c (rf_n j' 3 x F' .leaf) e L → S.2.2.2.1 x = none → (∀ u S' PR' tm', dx_tm S tm tm' → vx_l2 (fun _ => False) S S' → dv_G tv tc n0 Qs u S' PR' tm' [] r → dx_fr s u → K 0 u) → sx_C sL sx d 77 [.inr (.inl 38)] s K := by
  intro S PR tm r j j' x F F' c e L s K hG hcu h2 hx hK
  obtain ⟨g1, g2, g3, g4, ⟨g5, g6⟩, g7, g8⟩ := hG trivial
  obtain ⟨⟨W, B1, Sc, rk, hrk⟩, _⟩ := g3 trivial
  obtain ⟨⟨M1, M2, M3, M5⟩, M4⟩ := g2 trivial
  obtain ⟨c0, _, _, c3, c4, c5, _⟩ := g4 trivial
  obtain ⟨⟨a1, a2⟩, ⟨a3, a4⟩, a5⟩ := hcu trivial
  obtain ⟨lt, t, s1, s2⟩ := h2 trivial
  obtain ⟨⟨i1, _, t1⟩, _⟩ := s1 trivial
  obtain ⟨⟨i2, _, t2⟩, _⟩ := s2 trivial
  obtain ⟨x0, x1⟩ := i1.1 x (Or.inl ⟨rfl, rfl⟩)
  have l1 := vx_in_len i1
  have l2 := vx_in_len i2
  obtain ⟨_, _, _, q4, _, q6, q7, _, _, q10⟩ := dv_at_hd a1
  obtain ⟨_, _, _, q4', _, q6', q7', _, _, q10'⟩ := dv_at_hd a3
  obtain ⟨q11, q12⟩ := q7 (by decide)
  obtain ⟨q13, q14, q15⟩ := q10 rfl
  obtain ⟨q13', q14', _⟩ := q10' rfl
  have lF : (S.2.2.2.2 j).length = rf_len F := by rw [q13, dz_hs_len]
  have lF' : (S.2.2.2.2 j').length = rf_len F' := by rw [q13', dz_hs_len]
  have hp := dv_pow4 q12
  obtain ⟨d, rfl⟩ : ∃ e, d = e + 2 := ⟨d - 2, by omega⟩
  have gt : ∀ i, i < rf_len F → ((S.2.2.2.2 j).map (dv_lk c))[i]? = some (dv_lk c ((dz_hs F).getD i (-1))) ∧ ((S.2.2.2.2 j').map (dv_lk e))[i]? = some (dv_lk e ((dz_hs F').getD i (-1))) := fun i hi => by
    have h1 : i < (dz_hs F).length := by rw [dz_hs_len]; exact hi
    have h2 : i < (dz_hs F').length := by rw [dz_hs_len]; omega
    rw [q13, q13', List.getElem?_map, List.getElem?_map, List.getElem?_eq_getElem h1, List.getElem?_eq_getElem h2, vx_gD h1, vx_gD h2]
    exact ⟨rfl, rfl⟩
  refine sx_meth (wr := true) (n := 400) hsL (e := eX6_meet) rfl (w_dv_me (Q := fun _ _ _ => False) (P := fun z => (0 ≤ z ∧ z < ((2 ^ rf_len F : Nat) : Int)) ∧ ∀ i : Nat, i < rf_len F → dv_tb z i = decide (dv_lk c ((dz_hs F).getD i (-1)) = dv_lk e ((dz_hs F').getD i (-1)))) (G2 := fun kp t => ∃ Fn, cx_I t ∧ cx_F [(11, 17), (33, 37)] s t ∧ dv_nr kp x (dz_hs F) s t Fn) (al := ((2 ^ rf_len F : Nat) : Int) - 1) (fun K hK => ?_) (fun K hK => ?_) (fun kp hkp _ K hK => ?_) (fun kp hkp => ?_) g1 (by omega) (fun kp hkp he => ?_) (fun kp hkp he t ht => ?_))
  · exact c_dv_eqa hsL (d + 1) (by omega) F F' c e _ _ s K g1 (dv_at_z a1) (dv_at_z a3) q6 q6' q11 q12 (by omega) a2 (Int.le_refl _) a4 (Int.le_refl _) (fun z z0 z1 z2 => hK z ⟨⟨z0, z1⟩, z2⟩)
  · exact c_dv_ala hsL (d + 1) (by omega) _ (rf_len F) s K g1 (dv_at_z a1) q11 q12 hK
  · refine c_dv_nar hsL (d + 1) (by omega) _ kp x F s K g1 (dv_at_z a1) (by have := hkp.1; omega) ⟨q4, x0, by omega⟩ q6 q11 q12 (by omega) ?_ (fun v hv => ?_) (fun t Fn t1 t2 t3 => hK t ⟨Fn, t1, t2, t3⟩)
    · have o1 := vx_op_1 hx
      have sa := vx_sm_at (f := fun u => vx_op S u * (vx_aa S u * (vx_aa S u + 1) / 2)) (x := x) (n := S.1.toNat) x0 (by omega)
      try dsimp only at sa
      rw [o1.1, Nat.one_mul] at sa
      have ea : vx_aa S x = rf_len F := by unfold vx_aa; omega
      rw [ea] at sa
      have : rf_len F ≤ rf_len F * (rf_len F + 1) / 2 := by
        have h4 : rf_len F = 0 ∨ rf_len F = 1 ∨ rf_len F = 2 ∨ rf_len F = 3 ∨ rf_len F = 4 := by omega
        rcases h4 with h4 | h4 | h4 | h4 | h4 <;> rw [h4] <;> decide
      omega
    · exact q15 v (by rw [q13]; exact hv)
  · have := hkp.1
    omega
  · refine hK s S PR tm (fun _ _ _ => rfl) (vx_l2_refl S) (fun _ => ⟨g1, g2, g3, g4, ⟨g5, g6⟩, g7, ?_⟩) (dx_fr_refl s)
    refine vx_J_same (j := j) (j' := j') (F := F) (F' := F') (u := x) (L := L) g8 (List.ext_getElem? (fun i => ?_))
    by_cases hi : i < rf_len F
    · obtain ⟨e1, e2⟩ := gt i hi
      have b1 := hkp.2 i hi
      rw [he, dv_tb_all (by omega) (by omega), decide_eq_true hi] at b1
      have b2 := of_decide_eq_true b1.symm
      rw [e1, e2, b2]
    · rw [List.getElem?_eq_none (by rw [List.length_map]; omega), List.getElem?_eq_none (by rw [List.length_map]; omega)]
  · obtain ⟨Fn, t1', t2', t3'⟩ := ht
    have hlt : ∃ i, i < (S.2.2.2.2 j).length ∧ dv_tb kp i = false := by
      apply Classical.byContradiction
      intro hne
      refine he (dv_tb_eq hkp.1.1 (by have := hkp.1; omega) (by omega) (by omega) (fun i hi => ?_))
      rw [dv_tb_all (by omega) hi]
      by_cases hl : i < rf_len F
      · rw [decide_eq_true hl]
        cases hq : dv_tb kp i with
        | true => rfl
        | false => exact absurd ⟨i, by omega, hq⟩ hne
      · rw [decide_eq_false hl]
        exact dv_tb_hi hkp.1.2 (by omega)
    obtain ⟨T, PR', tm', eu, zs, ks, jn, hnw, zn2, zn3, zn4, zn5, hG'⟩ := dv_G_nw (ps' := []) hG a1 i1 (vx_ty_call t1) hx t3' hlt t1' t2' (fun T eu zs ks jn n1 n2 => by
      refine vx_J_meet (j := j) (j' := j') (F := F) (F' := F') (u := x) (L := L) g8 W n1 hQ (fun q hq => ?_) (fun i hi => ?_)
      · rcases List.mem_cons.mp hq with rfl | hq
        · exact ⟨i1, i2⟩
        · exact dv_es_in g7 q hq
      · rw [n2 i (by omega), hkp.2 i (by omega), decide_eq_true_iff]
        obtain ⟨e1, e2⟩ := gt i (by omega)
        rw [e1, e2]
        exact ⟨fun h => by rw [h], fun h => Option.some.inj h⟩)
    exact hK t T PR' tm' (by first | exact zn2 | exact zn3 | exact zn4 | exact zn5) (vx_nw_l2 hnw) hG' (fun _ => ⟨⟨(t3' trivial).2.2.2.1, cx_F_step t2' rfl (cx_F_refl _ _)⟩, (t3' trivial).2.2.2.2.2.2.2⟩)
theorem c_dx_gv {tv tc : Int → rf_T} {n0 : Int} {Qs : (Int → rf_N) → Prop} {sL : Nat} {sx : Nat → Int32} (hsL : sL ≤ 3072) (d : Nat) (hd : 8 ≤ d) (hQ : ∀ th th', vx_ag n0 th th' → Qs th → Qs th') : ∀ (S : vx_S) (PR : Int → List (Int × Int)) (tm : Int → Int → rf_T) (r : List dv_E) (j : Nat) (sf : Int) (F B : rf_N) (c e : List (Int × Int)) (L : Int) (bs : Nat) (s : sx_S) (K : Int → sx_S → Prop), dv_G tv tc n0 Qs s S PR tm [((rf_n j 3 sf F .leaf, dv_lk c), (B, dv_lk e), L)] r → dv_cu s S.2.2.2.2 (rf_n j 3 sf F .leaf) c B e L → vx_2 tv tc tm S (rf_n j 3 sf F .leaf) c B e L → S.2.2.2.1 sf = none → (∀ (j' : Nat) (m : Int) (F' : rf_N), B = rf_n j' 3 m F' .leaf → m ≠ sf ∧ S.2.2.2.1 m = none) → bs ≤ 385 → vx_c1 S bs B (s.1 29 3) L 0 → (∀ u, cx_I u → cx_F [(11, 17), (29, 38), (46, 54)] s u → vx_NO n0 Qs S → K 0 u) → (∀ u S' PR' tm', dx_tm S tm tm' → vx_l2 (fun C => C = B) S S' → dv_G tv tc n0 Qs u S' PR' tm' [] r → dx_fr s u → K 1 u) → sx_C sL sx d 79 [.inr (.inl 38)] s K := by
  intro S PR tm r j sf F B c e L bs s K hG hcu h2 hsf hBs hbs hc1 hK0 hK1
  obtain ⟨g1, g2, g3, g4, ⟨g5, g6⟩, g7, g8⟩ := hG trivial
  obtain ⟨⟨W, B1, Sc, rk, hrk⟩, _⟩ := g3 trivial
  obtain ⟨⟨M1, M2, M3, M5⟩, M4⟩ := g2 trivial
  obtain ⟨⟨a1, a2⟩, ⟨a3, a4⟩, a5⟩ := hcu trivial
  obtain ⟨lt, t, s1, s2⟩ := h2 trivial
  obtain ⟨⟨i1, _, t1⟩, _, ⟨L0, ckL⟩, _⟩ := s1 trivial
  obtain ⟨⟨i2, sgB, t2⟩, _⟩ := s2 trivial
  obtain ⟨x0, x1⟩ := i1.1 sf (Or.inl ⟨rfl, rfl⟩)
  have l1 := vx_in_len i1
  have xp := vx_sd_open hsf l1 s1
  obtain ⟨_, _, _, q4, _, q6, q7, _, _, q10⟩ := dv_at_hd a1
  obtain ⟨q11, q12⟩ := q7 (by decide)
  obtain ⟨q13, q14, q15⟩ := q10 rfl
  have lF : (S.2.2.2.2 j).length = rf_len F := by rw [q13, dz_hs_len]
  have lX : ((S.2.2.2.2 j).map (dv_lk c)).length = rf_len F := by rw [List.length_map, lF]
  have gX : ∀ i, i < rf_len F → ((S.2.2.2.2 j).map (dv_lk c)).getD i (-1) = dv_lk c ((dz_hs F).getD i (-1)) := fun i hi => by
    rw [q13, vx_getD_map _ _ _ (by rw [dz_hs_len]; exact hi)]
  obtain ⟨b1, b2, b3, b4⟩ := vx_c1_bd hrk W g4 hbs hc1
  obtain ⟨_, _, hBh, _⟩ := hc1 trivial
  have n0S : n0 ≤ S.1 := g8.2.2.1
  have h29 := g1.fld 29 3 (by decide) rfl
  obtain ⟨d, rfl⟩ : ∃ e, d = e + 2 := ⟨d - 2, by omega⟩
  refine sx_methL (wr := true) (n := 400) (n' := 400) (stop := [(34, [0, 1]), (137, [0, 1, 2]), (191, [0, 2])]) (fun nn pc ls u => (pc = 34 ∧ ∃ x1 : Nat, ls = [(0, .inr (.inl 38)), (1, .inl (x1 : Int))] ∧ cx_I u ∧ cx_F [(38, 38), (53, 54)] s u ∧ (u.1 38 7 = sf ∧ ∀ k, k ≠ 7 → u.1 38 k = s.1 38 k) ∧ (∀ i : Nat, i < 32 → u.2.1 53 i = 31) ∧ (∀ i : Nat, i < 4 → u.2.1 54 i = if i < x1 then ((S.2.2.2.2 j).map (dv_lk c)).getD i (-1) else -1) ∧ x1 ≤ rf_len F ∧ nn = 300000 + (rf_len F - x1)) ∨ (pc = 137 ∧ ∃ (x1 : Int) (x2 : Nat), ls = [(0, .inr (.inl 38)), (1, .inl x1), (2, .inl (x2 : Int))] ∧ ((x1 = 0 ∧ cx_I u ∧ cx_F [(11, 17), (29, 38), (46, 54)] s u ∧ vx_NO n0 Qs S ∧ (x2 < 1000000 ∧ u.1 38 7 = sf) ∧ nn = 1000) ∨ (x1 = 1 ∧ ∃ S' PR' tm' ws v, dx_tm S tm tm' ∧ dv_WK tv tc n0 Qs ((rf_n j 3 sf F .leaf, dv_lk c), (B, dv_lk e), L) (B, dv_lk e) r sf L (fun v => L ≤ v ∨ (0 ≤ v ∧ v ∈ (S.2.2.2.2 j).map (dv_lk c))) bs (s.1 29 3) c e u S' PR' tm' [] ws ∧ dv_RT (B, dv_lk e) S' (ws.map dv_kf) ∧ (cx_I v ∧ cx_F [(38, 38), (46, 54)] s v ∧ ∀ k, k ≠ 7 → v.1 38 k = s.1 38 k) ∧ dx_WF (s.1 29 3) v u S S' ∧ (∀ i : Nat, i < 4 → v.2.1 54 i = ((S.2.2.2.2 j).map (dv_lk c)).getD i (-1)) ∧ dv_ms u ws + x2 ≤ 200000 ∧ nn = 1000 + dv_ms u ws))) ∨ (pc = 191 ∧ ∃ x2 : Nat, ls = [(0, .inr (.inl 38)), (2, .inl (x2 : Int))] ∧ ∃ S' PR' tm' v w, dx_tm S tm tm' ∧ dv_WK tv tc n0 Qs ((rf_n j 3 sf F .leaf, dv_lk c), (B, dv_lk e), L) (B, dv_lk e) r sf L (fun v => L ≤ v ∨ (0 ≤ v ∧ v ∈ (S.2.2.2.2 j).map (dv_lk c))) bs (s.1 29 3) c e v S' PR' tm' [] [] ∧ (cx_I w ∧ cx_F [(38, 38), (46, 54)] s w ∧ ∀ k, k ≠ 7 → w.1 38 k = s.1 38 k) ∧ dx_WF (s.1 29 3) w v S S' ∧ (∀ i : Nat, i < 4 → w.2.1 54 i = ((S.2.2.2.2 j).map (dv_lk c)).getD i (-1)) ∧ cx_I u ∧ cx_F [(33, 37)] v u ∧ dv_gm sf (s.1 38 10) (dv_gp e 0 (((S.2.2.2.2 j).map (dv_lk c)).take x2)) v u ∧ x2 ≤ rf_len F ∧ nn = rf_len F - x2)) hsL (e := eX6_give) rfl ?_ ?_
  · refine w_dv_gv (c_dz_head hsL (d + 1) (by omega)) (c_dv_fill53 hsL (d + 1) (by omega)) (c_dv_fill54 hsL (d + 1) (by omega)) g1 (dv_at_z a1) (fun t u1 u2 u3 u4 u5 => ?_)
    rw [q4] at u3
    exact ⟨_, Or.inl ⟨rfl, 0, rfl, u1, u2, u3, u4, fun i hi => by rw [if_neg (by omega)]; exact u5 i hi, by omega, rfl⟩⟩
  · rintro nn pc ls u (⟨rfl, x1, rfl, j1, j2, ⟨j3, j4⟩, j5, j6, j7, rfl⟩ | ⟨rfl, x1, x2, rfl, ⟨rfl, j1, j2, j3, j4, rfl⟩ | ⟨rfl, S', PR', tm', ws, v, zj0, j1, j2, ⟨j3, j4, j5⟩, j6, j7, j8, rfl⟩⟩ | ⟨rfl, x2, rfl, S', PR', tm', v, w, zj0, j1, ⟨j2, j3, j4⟩, j5, j6, j7, j8, j9, j10, rfl⟩)
    · have f : ∀ q, q < 38 → u.1 q = s.1 q ∧ u.2.1 q = s.2.1 q := fun q hq => (j2 q).1 (by
        show cx_out [(38, 38), (53, 54)] q
        simp [cx_out]
        omega)
      have e8 := j4 8 (by decide)
      have e9 := j4 9 (by decide)
      have e10 := j4 10 (by decide)
      have e11 := j4 11 (by decide)
      have e12 := j4 12 (by decide)
      have k11 : u.1 11 = s.1 11 := (f 11 (by decide)).1
      have k29 : u.1 29 = s.1 29 := (f 29 (by decide)).1
      have nf : dv_nf (s.1 11 6) S.2.2.2.2 S.2.2.2.2 s u := dv_nf_F _ j2 (by decide)
      have lk : ∀ i : Nat, u.2.1 30 i = s.2.1 30 i ∧ u.2.1 31 i = s.2.1 31 i ∧ u.2.1 32 i = s.2.1 32 i := fun i => by
        rw [(f 30 (by decide)).2, (f 31 (by decide)).2, (f 32 (by decide)).2]
        exact ⟨rfl, rfl, rfl⟩
      have z8 : 0 ≤ u.1 38 8 ∧ u.1 38 8 < u.1 11 6 := by
        rw [e8, k11]
        exact dv_at_z a1
      have n16 : u.2.1 16 (u.1 38 8).toNat = (rf_len F : Int) := by rw [e8, (f 16 (by decide)).2]; exact q11
      have hFu : dz_nd u F (u.2.1 14 (u.1 38 8).toNat) := by
        rw [e8, (f 14 (by decide)).2]
        exact dz_nd_fr q6 (nf trivial).1 (fun i hi => rf_nd_lt q6 i hi)
      have hcu : dv_c u c (u.1 29 3) (u.1 38 9) := by
        rw [k29, e9]
        exact dv_ch_fr (fun i _ => lk i) a2
      have heu : dv_c u e (u.1 29 3) (u.1 38 11) := by
        rw [k29, e11]
        exact dv_ch_fr (fun i _ => lk i) a4
      by_cases hx : x1 < rf_len F
      · obtain ⟨w, hw⟩ := dv_drx x1 hFu
        obtain ⟨w1, w2⟩ := dv_nth hx hw
        have r13 := j1.arr 13 (by decide) rfl w.toNat
        refine w_dv_gv34y (w := w) (lv := dv_lk c ((dz_hs F).getD x1 (-1))) (c_dz_arity hsL (d + 1) (by omega)) (c_dz_head hsL (d + 1) (by omega)) (fun K' hK' => ?_) (fun K' hK' => ?_) j1 z8 (by rw [n16]; omega) w1 (dv_lk_rng j1 hcu _) (fun hI2 => ?_)
        · refine c_dz_arg hsL (d + 1) (by omega) _ _ F _ _ j1 z8 (by omega) hFu (fun z _ q => ?_)
          rw [Int.toNat_natCast] at q
          rw [dv_nd1 q hw]
          exact hK'
        · rw [w2] at r13 ⊢
          exact c_dv_of hsL (d + 1) (by omega) _ _ _ c _ _ j1 r13 hcu (Int.le_refl _) hK'
        · refine ⟨300000 + (rf_len F - (x1 + 1)), by omega, Or.inl ⟨rfl, x1 + 1, rfl, hI2, cx_F_ua rfl j2, ⟨j3, j4⟩, fun i hi => ?_, fun i hi => ?_, by omega, rfl⟩⟩
          · show sx_ua u.2.1 54 ((x1 : Int)).toNat (dv_lk c ((dz_hs F).getD x1 (-1))) 53 i = 31
            rw [sx_ua_ne (by decide)]
            exact j5 i hi
          · show sx_ua u.2.1 54 ((x1 : Int)).toNat (dv_lk c ((dz_hs F).getD x1 (-1))) 54 i = _
            rw [sx_ua_same]
            dsimp only
            rw [Int.toNat_natCast]
            by_cases q : i = x1
            · rw [if_pos q, if_pos (by omega), q, gX x1 hx]
            · rw [if_neg q, j6 i hi]
              by_cases q' : i < x1
              · rw [if_pos q', if_pos (by omega)]
              · rw [if_neg q', if_neg (by omega)]
      · have hx' : x1 = rf_len F := by omega
        refine w_dv_gv34n (c_dz_arity hsL (d + 1) (by omega)) (c_dv_pclear46 hsL (d + 1) (by omega)) (c_dv_mark hsL (d + 1) (by omega)) (c_dv_push46 hsL (d + 1) (by omega)) j1 z8 (by rw [n16]; omega) (fun t0 t y1 y2 y3 y4 y5 y6 => ?_)
        obtain ⟨p1, p2, p3, p4, p5, p6, p7, p8⟩ := y6 trivial
        have i0 : (t0.1 46 6).toNat = 0 := by omega
        rw [i0] at p3 p4 p5 p6 p7 p8
        have hFt : cx_F [(38, 38), (46, 54)] s t := cx_F_step y5 rfl (cx_F_step y2 rfl (cx_F_step j2 rfl (cx_F_refl _ _)))
        have c38 : t0.1 38 = u.1 38 := (y2.same 38 rfl).1
        have c29 : t0.1 29 = u.1 29 := (y2.same 29 rfl).1
        have d38 : t.1 38 = u.1 38 := by rw [(y5.same 38 rfl).1, c38]
        have d29 : t.1 29 3 = s.1 29 3 := by rw [(y5.same 29 rfl).1, c29, k29]
        have e53 : t.2.1 53 = u.2.1 53 := by rw [(y5.same 53 rfl).2, (y2.same 53 rfl).2]
        have e54 : t.2.1 54 = u.2.1 54 := by rw [(y5.same 54 rfl).2, (y2.same 54 rfl).2]
        have nft : dv_nf (s.1 11 6) S.2.2.2.2 S.2.2.2.2 s t := dv_nf_F _ hFt (by decide)
        have lkt : ∀ i : Nat, t.2.1 30 i = s.2.1 30 i ∧ t.2.1 31 i = s.2.1 31 i ∧ t.2.1 32 i = s.2.1 32 i := fun i => by
          rw [(hFt.same 30 rfl).2, (hFt.same 31 rfl).2, (hFt.same 32 rfl).2]
          exact ⟨rfl, rfl, rfl⟩
        have pst : dv_ps t S.2.2.2.2 (s.1 29 3) r := dv_ps_fr (Int.le_refl _) nft (fun i _ => lkt i) (fun i _ => by
          rw [(hFt.same 40 rfl).2, (hFt.same 41 rfl).2, (hFt.same 42 rfl).2, (hFt.same 43 rfl).2, (hFt.same 44 rfl).2, (hFt.same 45 rfl).2]
          exact ⟨rfl, rfl, rfl, rfl, rfl, rfl⟩) g5
        have own : ∀ i : Nat, i < 4 → t.2.1 54 i = ((S.2.2.2.2 j).map (dv_lk c)).getD i (-1) := fun i hi => by
          rw [e54, j6 i hi]
          by_cases q : i < x1
          · rw [if_pos q]
          · rw [if_neg q, List.getD_eq_getElem?_getD, List.getElem?_eq_none (by omega)]
            rfl
        have fal : ∀ v, dv_al t v ↔ (L ≤ v ∨ (0 ≤ v ∧ v ∈ (S.2.2.2.2 j).map (dv_lk c))) := fun v => by
          unfold dv_al
          rw [d38, e12, a5]
          refine or_congr Iff.rfl (and_congr_right (fun v0 => ⟨fun ⟨i, hi, he⟩ => ?_, fun hm => ?_⟩))
          · rw [own i hi] at he
            by_cases q : i < ((S.2.2.2.2 j).map (dv_lk c)).length
            · rw [vx_gD q] at he
              rw [← he]
              exact List.getElem_mem q
            · rw [List.getD_eq_getElem?_getD, List.getElem?_eq_none (by omega)] at he
              have he' : (-1 : Int) = v := he
              omega
          · obtain ⟨i, h1, h2⟩ := List.getElem_of_mem hm
            refine ⟨i, by omega, ?_⟩
            rw [own i (by omega), vx_gD h1]
            exact h2
        have esn : dv_sn t = fun _ => False := by
          funext m
          unfold dv_sn
          refine propext ⟨fun h => ?_, fun h => h.elim⟩
          exact h.2 (by rw [e53]; exact j5 m.toNat (by have := h.1; omega))
        have hcs : dv_cs t = 160 := by
          unfold dv_cs
          have := vx_sm_cg (f := fun m => dv_cd (t.2.1 53 m.toNat)) (g := fun _ => 5) (n := 32) (fun i hi => by
            try dsimp only
            rw [e53, Int.toNat_natCast, j5 i hi]
            decide)
          rw [this]
          decide
        have hms : dv_ms t [((B, e), L, s.1 29 3)] = vx_hz B + 164000 := by
          unfold dv_ms
          rw [hcs]
          show vx_hz B + 0 + 1025 * 160 = _
          omega
        have hGt : dv_G tv tc n0 Qs t S PR tm [((rf_n j 3 sf F .leaf, dv_lk c), (B, dv_lk e), L)] r := dv_G_F hG y4 (cx_F_step hFt rfl (cx_F_refl _ _)) (by rw [(hFt.same 33 rfl).1]) (fun _ => ⟨by omega, fun i _ => lkt i⟩) g8
        have hWK : dv_WK tv tc n0 Qs ((rf_n j 3 sf F .leaf, dv_lk c), (B, dv_lk e), L) (B, dv_lk e) r sf L (fun v => L ≤ v ∨ (0 ≤ v ∧ v ∈ (S.2.2.2.2 j).map (dv_lk c))) bs (s.1 29 3) c e t S PR tm [] [((B, e), L, s.1 29 3)] := fun _ => ⟨hGt, ⟨⟨⟨by show s.1 29 3 ≤ t.1 29 3; omega, h29.1⟩, ⟨by
          show dv_at t S.2.2.2.2 B (t.2.1 47 0)
          rw [p3]
          show dv_at t S.2.2.2.2 B (t0.1 38 10)
          rw [c38, e10]
          exact dv_at_fr (Int.le_refl _) nft a3, by
          show dv_c t e (s.1 29 3) (t.2.1 48 0)
          rw [p4]
          show dv_c t e (s.1 29 3) (t0.1 38 11)
          rw [c38, e11]
          exact dv_ch_fr (fun i _ => lkt i) a4⟩, ⟨by
          show t.2.1 51 0 = L
          rw [p7]
          show t0.1 38 12 = L
          rw [c38, e12]
          exact a5, by
          show t.2.1 52 0 = s.1 29 3
          rw [p8]
          show t0.1 29 3 = s.1 29 3
          rw [c29, k29]⟩, trivial⟩, by
          show t.1 46 6 = ((1 : Nat) : Int)
          omega⟩, ⟨by rw [d38]; exact j3, by rw [d38, e12]; exact a5, L0, fal⟩, fun m hm => by rw [e53, j5 m hm]; omega, ⟨by rw [esn]; exact vx_H_0, vx_Kn_0 (fun x hx => Or.inr ⟨by
            obtain ⟨y, y1', y2'⟩ := List.mem_map.mp hx
            rw [← y2']
            exact xp y y1', hx⟩) (fun x hx => Or.inl hx)⟩, ⟨⟨⟨lt, _, s2⟩, Int.le_refl _, hc1⟩, trivial⟩, ⟨hsf, x0, ⟨i2, i1, i2⟩, fun _ h => absurd h List.not_mem_nil⟩, hbs, by omega, fun k hk => by rw [List.mem_singleton.mp hk]; exact Int.le_refl _, pst, h2⟩
        refine ⟨1000 + dv_ms t [((B, e), L, s.1 29 3)], by rw [hms]; omega, Or.inr (Or.inl ⟨rfl, 1, 0, rfl, Or.inr ⟨rfl, S, PR, tm, _, t, fun _ _ _ => rfl, hWK, fun j1' m1 F1 e1 => Or.inr ⟨rfl, (hBs j1' m1 F1 e1).2⟩, ⟨y4, hFt, fun k hk => by rw [d38]; exact j4 k hk⟩, fun _ => ⟨cx_F_refl _ _, fun _ => ⟨by omega, fun _ _ => ⟨rfl, rfl, rfl⟩⟩, vx_l2_refl S, dv_nf_refl _ _ _, ⟨by rw [(hFt.same 11 rfl).1]; exact M2, by rw [(hFt.same 11 rfl).1]; exact M2⟩, rfl, rfl, rfl⟩, own, by rw [hms]; omega, rfl⟩⟩)⟩
    · exact w_dv_gv137 (G := fun _ _ => False) (c_dv_pempty46 hsL (d + 1) (by omega)) (c_dv_bind hsL (d + 1) (by omega)) (fun _ q => absurd rfl q) (fun _ _ h => h.elim) j1 (Or.inl rfl) (by omega) (by rw [j4.2]; omega) (fun _ => hK0 u j1 j2 j3) (fun q => absurd q (by decide)) (fun q => absurd q (by decide))
    · obtain ⟨hGu, ⟨w1, w2⟩, ⟨f7, f12, _, fal⟩, _⟩ := j1 trivial
      obtain ⟨z1, _⟩ := hGu trivial
      obtain ⟨_, _, v3, v4, _, _⟩ := j6 trivial
      have h38 : u.1 38 = v.1 38 := ((j6 trivial).1.same 38 rfl).1
      have hrs : ∀ (j' : Nat) (F' : rf_N), B ≠ rf_n j' 3 sf F' .leaf := fun j' F' q => (hBs j' sf F' q).1 rfl
      cases ws with
      | nil =>
        have w2' : u.1 46 6 = 0 := w2
        refine w_dv_gv137 (G := fun _ _ => False) (c_dv_pempty46 hsL (d + 1) (by omega)) (c_dv_bind hsL (d + 1) (by omega)) (fun q => absurd w2' q) (fun _ _ h => h.elim) z1 (Or.inr rfl) (by omega) (by rw [f7]; omega) (fun q => absurd q (by decide)) (fun _ q => absurd w2' q) (fun _ _ hI2 => ?_)
        have e10 : u.1 38 10 = s.1 38 10 := by rw [h38]; exact j5 10 (by decide)
        refine ⟨rf_len F, by omega, Or.inr (Or.inr ⟨rfl, 0, rfl, S', PR', tm', u, v, zj0, j1, ⟨j3, j4, j5⟩, j6, j7, hI2, cx_F_ua rfl (cx_F_ua rfl (cx_F_refl _ _)), fun _ => ⟨rfl, fun i => ?_, fun _ => ⟨?_, by show 0 ≤ 4; omega, fun i q hq => ?_⟩, fun i hi => ?_, fun i _ => ⟨?_, ?_⟩⟩, by omega, rfl⟩)⟩
        · show sx_ua (sx_ua u.2.1 34 (u.1 38 7).toNat (u.1 38 10)) 35 (u.1 38 7).toNat 0 34 i = _
          rw [sx_ua_ne (by decide), sx_ua_same, f7, e10]
        · show sx_ua (sx_ua u.2.1 34 (u.1 38 7).toNat (u.1 38 10)) 35 (u.1 38 7).toNat 0 35 sf.toNat = _
          rw [sx_ua_same, f7]
          dsimp only
          rw [if_pos rfl]
          rfl
        · have hq' : ([] : List (Int × Int))[i]? = some q := hq
          simp at hq'
        · show sx_ua (sx_ua u.2.1 34 (u.1 38 7).toNat (u.1 38 10)) 35 (u.1 38 7).toNat 0 35 i = _
          rw [sx_ua_same, f7]
          dsimp only
          rw [if_neg hi, sx_ua_ne (by decide)]
        · show sx_ua (sx_ua u.2.1 34 (u.1 38 7).toNat (u.1 38 10)) 35 (u.1 38 7).toNat 0 36 i = _
          rw [sx_ua_ne (by decide), sx_ua_ne (by decide)]
        · show sx_ua (sx_ua u.2.1 34 (u.1 38 7).toNat (u.1 38 10)) 35 (u.1 38 7).toNat 0 37 i = _
          rw [sx_ua_ne (by decide), sx_ua_ne (by decide)]
      | cons k ws =>
        have w2' : u.1 46 6 = (ws.length : Int) + 1 := w2
        refine w_dv_gv137 (G := fun z t => (z = 0 ∧ cx_I t ∧ cx_F [(11, 17), (29, 37), (46, 54)] u t ∧ vx_NO n0 Qs S') ∨ (z = 1 ∧ ∃ S'' PR'' tm'' ws'', dx_tm S' tm' tm'' ∧ dv_WK tv tc n0 Qs ((rf_n j 3 sf F .leaf, dv_lk c), (B, dv_lk e), L) (B, dv_lk e) r sf L (fun v => L ≤ v ∨ (0 ≤ v ∧ v ∈ (S.2.2.2.2 j).map (dv_lk c))) bs (s.1 29 3) c e t S'' PR'' tm'' [] ws'' ∧ dv_RT (B, dv_lk e) S'' (ws''.map dv_kf) ∧ dx_WF (s.1 29 3) u t S' S'' ∧ dv_ms t ws'' < dv_ms u (k :: ws))) (c_dv_pempty46 hsL (d + 1) (by omega)) (c_dv_bind hsL (d + 1) (by omega)) (fun _ _ K' hK' => ?_) (fun z t ht => ?_) z1 (Or.inr rfl) (by omega) (by rw [f7]; omega) (fun q => absurd q (by decide)) (fun _ _ z t ht => ?_) (fun _ q => absurd q (by omega))
        · exact c_dx_fs hsL (d + 1) (by omega) hQ rfl hrs S' PR' tm' k ws u K' j1 j2 (fun t b1' b2' b3' => hK' 0 t (Or.inl ⟨rfl, b1', b2', b3'⟩)) (fun t S'' PR'' tm'' ws'' b0' b1' b2' b3' b4' => hK' 1 t (Or.inr ⟨rfl, S'', PR'', tm'', ws'', b0', b1', b2', b3', b4'⟩))
        · rcases ht with ⟨q, _⟩ | ⟨q, _⟩
          · exact Or.inl q
          · exact Or.inr q
        · rcases ht with ⟨rfl, b1', b2', b3'⟩ | ⟨rfl, S'', PR'', tm'', ws'', b0', b1', b2', b3', b4'⟩
          · refine ⟨1000, ?_, Or.inr (Or.inl ⟨rfl, 0, x2 + 1, rfl, Or.inl ⟨rfl, b1', cx_F_step b2' rfl (cx_F_step (j6 trivial).1 rfl (cx_F_step j4 rfl (cx_F_refl _ _))), vx_NO_le v3.1 n0S b3', ⟨by omega, by rw [(b2'.same 38 rfl).1]; exact f7⟩, rfl⟩⟩)⟩
            have : 0 < dv_ms u (k :: ws) := by
              have sg : 1 ≤ vx_hz k.1.1 := by
                obtain ⟨_, _, _, _, _, ⟨⟨⟨lt', ty', hs'⟩, _⟩, _⟩, _⟩ := j1 trivial
                obtain ⟨⟨_, ⟨ja, ka, ha, Fa, ea⟩, _⟩, _⟩ := hs' trivial
                rw [ea, vx_hz_in]
                split <;> omega
              unfold dv_ms
              show 0 < vx_hz k.1.1 + dv_hz ws + _
              omega
            omega
          · exact ⟨1000 + dv_ms t ws'', by omega, Or.inr (Or.inl ⟨rfl, 1, x2 + 1, rfl, Or.inr ⟨rfl, S'', PR'', tm'', ws'', v, dx_tm_t (j6 trivial).2.2.1.1.1.1 zj0 b0', b1', b2', ⟨j3, j4, j5⟩, dx_WF_t j6 b3', j7, by omega, rfl⟩⟩)⟩
    · obtain ⟨hGv, _, ⟨f7, f12, _, fal⟩, _⟩ := j1 trivial
      obtain ⟨z1, gM, _⟩ := hGv trivial
      obtain ⟨v1, v2, v3, v4, ⟨v5, v6⟩, v7, zv8⟩ := j5 trivial
      have w11 : w.1 11 6 = s.1 11 6 := by rw [(j3.same 11 rfl).1]
      have h38 : ∀ k, k ≠ 7 → u.1 38 k = s.1 38 k := fun k hk => by
        rw [(j8.same 38 rfl).1, (v1.same 38 rfl).1]
        exact j4 k hk
      have u7 : u.1 38 7 = sf := by rw [(j8.same 38 rfl).1]; exact f7
      have u11 : u.1 11 6 = v.1 11 6 := by rw [(j8.same 11 rfl).1]
      have hle2 := v3.1.1.2
      have za := dv_at_z a1
      have e8 := h38 8 (by decide)
      have z8 : 0 ≤ u.1 38 8 ∧ u.1 38 8 < u.1 11 6 := by
        rw [e8, u11]
        omega
      have n16 : u.2.1 16 (u.1 38 8).toNat = (rf_len F : Int) := by
        rw [e8, (j8.same 16 rfl).2, ((v4 trivial).1 trivial).2 (s.1 38 8).toNat (by omega) |>.2.2.2.2, (j3.same 16 rfl).2]
        exact q11
      have o54 : ∀ i : Nat, i < 4 → u.2.1 54 i = ((S.2.2.2.2 j).map (dv_lk c)).getD i (-1) := fun i hi => by
        rw [(j8.same 54 rfl).2, v7]
        exact j6 i hi
      have lku : ∀ i : Nat, (i : Int) < s.1 29 3 → u.2.1 30 i = s.2.1 30 i ∧ u.2.1 31 i = s.2.1 31 i ∧ u.2.1 32 i = s.2.1 32 i := fun i hi => by
        obtain ⟨l1', l2', l3'⟩ := (v2 trivial).2 i hi
        rw [(j8.same 30 rfl).2, (j8.same 31 rfl).2, (j8.same 32 rfl).2, l1', l2', l3', (j3.same 30 rfl).2, (j3.same 31 rfl).2, (j3.same 32 rfl).2]
        exact ⟨rfl, rfl, rfl⟩
      have u29 : s.1 29 3 ≤ u.1 29 3 := by
        rw [(j8.same 29 rfl).1]
        exact (v2 trivial).1
      have heu : dv_c u e (s.1 29 3) (u.1 38 11) := by
        rw [h38 11 (by decide)]
        exact dv_ch_fr lku a4
      have rva : ∀ y : Int, -2147483648 ≤ dv_va e y ∧ dv_va e y ≤ 2147483647 := by
        intro y
        have key : ∀ (e' : List (Int × Int)) (hi k : Int), dv_c u e' hi k → -2147483648 ≤ dv_va e' y ∧ dv_va e' y ≤ 2147483647 := by
          intro e'
          induction e' with
          | nil => exact fun _ _ _ => ⟨by show (-2147483648 : Int) ≤ -1; omega, by show (-1 : Int) ≤ 2147483647; omega⟩
          | cons p0 r0 ih =>
            intro hi k hc
            obtain ⟨_, ⟨h1, _⟩, h3⟩ := hc
            rw [dv_va_c]
            by_cases q : p0.2 = y
            · rw [if_pos q, ← h1]
              exact j7.arr 30 (by decide) rfl k.toNat
            · rw [if_neg q]
              exact ih _ _ h3
        exact key e _ _ heu
      have ry := j7.arr 54 (by decide) rfl ((x2 : Int)).toNat
      obtain ⟨m1, m2, m3, m4, m5⟩ := j9 trivial
      obtain ⟨r1, r2, r3⟩ := m3 trivial
      have gl := dv_gp_len (e := e) (l := ((S.2.2.2.2 j).map (dv_lk c)).take x2) (i := 0)
      have tl : (((S.2.2.2.2 j).map (dv_lk c)).take x2).length = x2 := by
        rw [List.length_take]
        omega
      by_cases hx : x2 < rf_len F
      · obtain ⟨y, ey⟩ : ∃ y, ((S.2.2.2.2 j).map (dv_lk c))[x2]? = some y := ⟨_, List.getElem?_eq_getElem (by omega)⟩
        have oy : u.2.1 54 ((x2 : Int)).toNat = y := by
          rw [Int.toNat_natCast, o54 x2 (by omega), List.getD_eq_getElem?_getD, ey]
          rfl
        have tk : ((S.2.2.2.2 j).map (dv_lk c)).take (x2 + 1) = ((S.2.2.2.2 j).map (dv_lk c)).take x2 ++ [y] := by
          rw [List.take_succ, ey]
          rfl
        refine w_dv_gv191 (v := dv_va e y) (c_dz_arity hsL (d + 1) (by omega)) (c_dv_addP hsL (d + 1) (by omega)) (fun _ K' hK' => ?_) j7 z8 (by rw [n16]; omega) (by rw [u7]; omega) (rva y) (by rw [u7, r1]; omega) (fun q => absurd q (by rw [n16]; omega)) (fun _ hn => ?_) (fun _ h1 h2' hI2 => ?_)
        · rw [oy] at ry ⊢
          exact c_dv_va hsL (d + 1) (by omega) _ _ _ e _ _ j7 ry heu u29 hK'
        · rw [oy] at hn
          refine ⟨rf_len F - (x2 + 1), by omega, Or.inr (Or.inr ⟨rfl, x2 + 1, rfl, S', PR', tm', v, w, zj0, j1, ⟨j2, j3, j4⟩, j5, j6, j7, j8, ?_, by omega, rfl⟩)⟩
          rw [tk, dv_gp_snoc, if_neg (by omega), List.append_nil]
          exact j9
        · rw [oy] at h1
          refine ⟨rf_len F - (x2 + 1), by omega, Or.inr (Or.inr ⟨rfl, x2 + 1, rfl, S', PR', tm', v, w, zj0, j1, ⟨j2, j3, j4⟩, j5, j6, hI2, cx_F_ua rfl (cx_F_ua rfl (cx_F_ua rfl j8)), ?_, by omega, rfl⟩)⟩
          rw [tk, dv_gp_snoc, if_pos ⟨h1, h2'⟩, Nat.zero_add, tl, u7]
          generalize hPg : dv_gp e 0 (((S.2.2.2.2 j).map (dv_lk c)).take x2) = Pg at *
          have hix : (sf * 4 + u.2.1 35 sf.toNat).toNat = sf.toNat * 4 + Pg.length := by
            rw [r1]
            omega
          rw [hix]
          refine fun _ => ⟨m1, fun i => ?_, fun _ => ⟨?_, ?_, fun i q hq => ?_⟩, fun i hi => ?_, fun i hi => ⟨?_, ?_⟩⟩
          · show sx_ua (sx_ua (sx_ua u.2.1 36 (sf.toNat * 4 + Pg.length) (dv_va e y)) 37 (sf.toNat * 4 + Pg.length) (x2 : Int)) 35 sf.toNat (u.2.1 35 sf.toNat + 1) 34 i = _
            rw [sx_ua_ne (by decide), sx_ua_ne (by decide), sx_ua_ne (by decide)]
            exact m2 i
          · show sx_ua (sx_ua (sx_ua u.2.1 36 (sf.toNat * 4 + Pg.length) (dv_va e y)) 37 (sf.toNat * 4 + Pg.length) (x2 : Int)) 35 sf.toNat (u.2.1 35 sf.toNat + 1) 35 sf.toNat = _
            rw [sx_ua_same]
            dsimp only
            rw [if_pos rfl, r1, List.length_append]
            simp
          · rw [List.length_append]
            show _ + 1 ≤ 4
            omega
          · show sx_ua (sx_ua (sx_ua u.2.1 36 (sf.toNat * 4 + Pg.length) (dv_va e y)) 37 (sf.toNat * 4 + Pg.length) (x2 : Int)) 35 sf.toNat (u.2.1 35 sf.toNat + 1) 36 (sf * 4 + (i : Int)).toNat = _ ∧ sx_ua (sx_ua (sx_ua u.2.1 36 (sf.toNat * 4 + Pg.length) (dv_va e y)) 37 (sf.toNat * 4 + Pg.length) (x2 : Int)) 35 sf.toNat (u.2.1 35 sf.toNat + 1) 37 (sf * 4 + (i : Int)).toNat = _
            have hi : (sf * 4 + (i : Int)).toNat = sf.toNat * 4 + i := by omega
            rw [hi, sx_ua_ne (by decide), sx_ua_ne (by decide), sx_ua_same, sx_ua_ne (by decide), sx_ua_same]
            dsimp only
            by_cases hc : i < Pg.length
            · rw [List.getElem?_append_left hc] at hq
              obtain ⟨d1, d2⟩ := r3 i q hq
              rw [hi] at d1 d2
              rw [if_neg (by omega), if_neg (by omega), sx_ua_ne (by decide)]
              exact ⟨d1, d2⟩
            · rw [List.getElem?_append_right (by omega)] at hq
              have hz : i - Pg.length = 0 := by
                obtain ⟨hlt, _⟩ := List.getElem?_eq_some_iff.mp hq
                simp at hlt
                omega
              rw [hz] at hq
              have hq' : (dv_va e y, (x2 : Int)) = q := by simpa using hq
              have hie : sf.toNat * 4 + i = sf.toNat * 4 + Pg.length := by omega
              rw [if_pos hie, if_pos hie, ← hq']
              exact ⟨rfl, rfl⟩
          · show sx_ua (sx_ua (sx_ua u.2.1 36 (sf.toNat * 4 + Pg.length) (dv_va e y)) 37 (sf.toNat * 4 + Pg.length) (x2 : Int)) 35 sf.toNat (u.2.1 35 sf.toNat + 1) 35 i = _
            rw [sx_ua_same]
            dsimp only
            rw [if_neg hi, sx_ua_ne (by decide), sx_ua_ne (by decide)]
            exact m4 i hi
          · show sx_ua (sx_ua (sx_ua u.2.1 36 (sf.toNat * 4 + Pg.length) (dv_va e y)) 37 (sf.toNat * 4 + Pg.length) (x2 : Int)) 35 sf.toNat (u.2.1 35 sf.toNat + 1) 36 i = _
            rw [sx_ua_ne (by decide), sx_ua_ne (by decide), sx_ua_same]
            dsimp only
            rw [if_neg (by omega)]
            exact (m5 i hi).1
          · show sx_ua (sx_ua (sx_ua u.2.1 36 (sf.toNat * 4 + Pg.length) (dv_va e y)) 37 (sf.toNat * 4 + Pg.length) (x2 : Int)) 35 sf.toNat (u.2.1 35 sf.toNat + 1) 37 i = _
            rw [sx_ua_ne (by decide), sx_ua_same]
            dsimp only
            rw [if_neg (by omega), sx_ua_ne (by decide)]
            exact (m5 i hi).2
      · have hx' : x2 = rf_len F := by omega
        refine w_dv_gv191 (v := dv_va e (u.2.1 54 ((x2 : Int)).toNat)) (c_dz_arity hsL (d + 1) (by omega)) (c_dv_addP hsL (d + 1) (by omega)) (fun _ K' hK' => ?_) j7 z8 (by rw [n16]; omega) (by rw [u7]; omega) (rva _) (by rw [u7, r1]; omega) (fun _ => ?_) (fun q => absurd q (by rw [n16]; omega)) (fun q => absurd q (by rw [n16]; omega))
        · exact c_dv_va hsL (d + 1) (by omega) _ _ _ e _ _ j7 ry heu u29 hK'
        · have eAR : S'.2.2.2.2 j = S.2.2.2.2 j := v3.1.2.2.2 j (i1.2.1 j List.mem_cons_self)
          have tf : ((S.2.2.2.2 j).map (dv_lk c)).take x2 = (S.2.2.2.2 j).map (dv_lk c) := List.take_of_length_le (by omega)
          rw [tf] at j9
          obtain ⟨T, PRT, hleT, hGT⟩ := dv_G_gv (b := s.1 38 10) (t := u) hQ j1 (fun q hq hl => by
            rw [eAR]
            rcases hq with hq | ⟨_, hq⟩
            · omega
            · exact hq) (by rw [eAR]; exact q14) (dv_at_fr (Int.le_refl _) v4 (dv_at_fr (AR := S.2.2.2.2) (by omega) (dv_nf_F (AR := S.2.2.2.2) (w.1 11 6) j3 (by decide)) a3)) hBh j7 j8 (by rw [eAR]; exact j9)
          exact hK1 u T PRT tm' zj0 (vx_l2_trans (vx_l2_im (fun _ q => q.elim) v3) hleT) hGT (dx_fr_t (dx_fr_t (dx_fr_F j3 (cx_F_step j3 rfl (cx_F_refl _ _)) (by decide)) (fun _ => ⟨⟨(v4 trivial).1, cx_F_step v1 rfl (cx_F_refl _ _)⟩, zv8⟩)) (dx_fr_F j8 (cx_F_step j8 rfl (cx_F_refl _ _)) (by decide)))
theorem c_dx_st {tv tc : Int → rf_T} {n0 : Int} {Qs : (Int → rf_N) → Prop} {sL : Nat} {sx : Nat → Int32} (hsL : sL ≤ 3072) (d : Nat) (hd : 10 ≤ d) (hQ : ∀ th th', vx_ag n0 th th' → Qs th → Qs th') : ∀ (S : vx_S) (PR : Int → List (Int × Int)) (tm : Int → Int → rf_T) (p : dv_E) (r : List dv_E) (s : sx_S) (K : Int → sx_S → Prop), dv_G tv tc n0 Qs s S PR tm [] (p :: r) → (∀ u, cx_I u → vx_NO n0 Qs S → K 0 u) → (∀ u S' PR' tm' r', dx_tm S tm tm' → vx_le S S' → dv_G tv tc n0 Qs u S' PR' tm' [] r' → vw_ST tv tc tm S S' p r r' → dx_fr s u → K 1 u) → sx_C sL sx d 71 [.inr (.inl 38)] s K := by
  intro S PR tm p r s K hG hK0 hK1
  obtain ⟨g1, g2, g3, g4, ⟨g5, g6⟩, ⟨⟨g7, g7c⟩, g7r⟩, g8⟩ := hG trivial
  obtain ⟨⟨W, B1, Sc, rk, hrk⟩, _⟩ := g3 trivial
  obtain ⟨b1, b2, b3⟩ := vx_c2_bd hrk W g4 g7c
  have g6' : s.1 39 6 = (r.length : Int) + 1 := g6
  obtain ⟨d, rfl⟩ : ∃ e, d = e + 2 := ⟨d - 2, by omega⟩
  refine sx_methL (wr := true) (n := 400) (n' := 400) (stop := [(4, [0]), (68, [0]), (142, [0])]) (fun nn pc ls u => ls = [(0, .inr (.inl 38))] ∧ dx_fr s u ∧ ∃ (A : rf_N) (c : List (Int × Int)) (B : rf_N) (e : List (Int × Int)) (L : Int), ((dv_G tv tc n0 Qs u S PR tm [((A, dv_lk c), (B, dv_lk e), L)] r ∧ dv_cu u S.2.2.2.2 A c B e L ∧ vx_2 tv tc tm S A c B e L ∧ (¬ vx_isl A ∧ ¬ vx_isl B) ∧ vx_c2 S A B (u.1 29 3) L r.length) ∧ ((pc = 4 ∧ vw_D tv tc tm S p A c B e L ∧ nn = 3) ∨ (pc = 68 ∧ (vw_D tv tc tm S p A c B e L ∧ vw_ne S A c B e) ∧ nn = 2) ∨ (pc = 142 ∧ (((∀ (j : Nat) (m : Int) (F : rf_N), A = rf_n j 3 m F .leaf → S.2.2.2.1 m = none) ∧ ∀ (j : Nat) (m : Int) (F : rf_N), B = rf_n j 3 m F .leaf → S.2.2.2.1 m = none) ∧ ∃ A0 c0 B0 e0 wa wb, vw_D tv tc tm S p A0 c0 B0 e0 L ∧ vw_ne S A0 c0 B0 e0 ∧ vw_wy S wa A0 A ∧ vw_wy S wb B0 B) ∧ nn = 1)))) hsL (e := eX6_step) rfl ?_ ?_
  · refine w_dv_st0 (G := fun t => dx_fr s t ∧ ∃ (A : rf_N) (c : List (Int × Int)) (B : rf_N) (e : List (Int × Int)) (L : Int), (dv_G tv tc n0 Qs t S PR tm [((A, dv_lk c), (B, dv_lk e), L)] r ∧ dv_cu t S.2.2.2.2 A c B e L ∧ vx_2 tv tc tm S A c B e L ∧ (¬ vx_isl A ∧ ¬ vx_isl B) ∧ vx_c2 S A B (t.1 29 3) L r.length) ∧ vw_D tv tc tm S p A c B e L) (fun K' hK' => ?_) (fun t ⟨hfr, A, c, B, e, L, ht, hD⟩ => ⟨3, rfl, hfr, A, c, B, e, L, ht, Or.inl ⟨rfl, hD, rfl⟩⟩)
    exact c_dv_tp (tv := tv) (tc := tc) (tm := tm) hsL (d + 1) (by omega) S p r s K' g1 g5 g6' g7 (by omega) (by omega) (fun u A c B e L u1 u2 u3 u4 u5 u6 u7 u8 u9 => hK' u ⟨dx_fr_F u2 (cx_F_step u2 rfl (cx_F_refl _ _)) (by decide), A, c, B, e, L, ⟨dv_G_tp hG u1 u2 u3 u4 u8, u5, u6, u7, vx_c2_rd u8 u9.1 u9.2.1 g7c⟩, fun _ => ⟨u8, u6, u7.1, u7.2⟩⟩)
  · rintro nn pc ls u ⟨rfl, hfr, A, c, B, e, L, ⟨hGu, hcu, h2, ⟨nA, nB⟩, hc2⟩, ⟨rfl, hD, rfl⟩ | ⟨rfl, ⟨hD, hne⟩, rfl⟩ | ⟨rfl, ⟨⟨stA, stB⟩, A0, c0, B0, e0, wa, wb, hD, hne, hwa, hwb⟩, rfl⟩⟩
    · obtain ⟨y1, y2, _⟩ := hGu trivial
      obtain ⟨⟨a1, a2⟩, ⟨a3, a4⟩, a5⟩ := hcu trivial
      obtain ⟨lt, t, s1, s2⟩ := h2 trivial
      obtain ⟨⟨i1, ⟨j, k, h, F, rfl⟩, t1⟩, _⟩ := s1 trivial
      obtain ⟨⟨i2, ⟨j', k', h', F', rfl⟩, t2⟩, _⟩ := s2 trivial
      obtain ⟨_, _, q3, q4, _, q6, q7, _, _, q10⟩ := dv_at_hd a1
      obtain ⟨_, _, q3', q4', _, q6', q7', _, _, q10'⟩ := dv_at_hd a3
      have hk0 : k ≠ 0 := fun q => nA ⟨j, h, F, by rw [q]⟩
      obtain ⟨q11, q12⟩ := q7 hk0
      have hp := dv_pow4 q12
      have hQ4 : vw_ne S (rf_n j k h F .leaf) c (rf_n j' k' h' F' .leaf) e → ∃ m', m' < 3 ∧ (([(0, .inr (.inl 38))] : sx_L) = [(0, .inr (.inl 38))] ∧ dx_fr s u ∧ ∃ (A : rf_N) (c : List (Int × Int)) (B : rf_N) (e : List (Int × Int)) (L : Int), ((dv_G tv tc n0 Qs u S PR tm [((A, dv_lk c), (B, dv_lk e), L)] r ∧ dv_cu u S.2.2.2.2 A c B e L ∧ vx_2 tv tc tm S A c B e L ∧ (¬ vx_isl A ∧ ¬ vx_isl B) ∧ vx_c2 S A B (u.1 29 3) L r.length) ∧ ((68 = 4 ∧ vw_D tv tc tm S p A c B e L ∧ m' = 3) ∨ (68 = 68 ∧ (vw_D tv tc tm S p A c B e L ∧ vw_ne S A c B e) ∧ m' = 2) ∨ (68 = 142 ∧ (((∀ (j : Nat) (m : Int) (F : rf_N), A = rf_n j 3 m F .leaf → S.2.2.2.1 m = none) ∧ ∀ (j : Nat) (m : Int) (F : rf_N), B = rf_n j 3 m F .leaf → S.2.2.2.1 m = none) ∧ ∃ A0 c0 B0 e0 wa wb, vw_D tv tc tm S p A0 c0 B0 e0 L ∧ vw_ne S A0 c0 B0 e0 ∧ vw_wy S wa A0 A ∧ vw_wy S wb B0 B) ∧ m' = 1)))) := fun hne => ⟨2, by omega, rfl, hfr, _, c, _, e, L, ⟨hGu, hcu, h2, ⟨nA, nB⟩, hc2⟩, Or.inr (Or.inl ⟨rfl, ⟨hD, hne⟩, rfl⟩)⟩
      have len : k = 3 → k' = 3 → h = h' → rf_len F' = rf_len F ∧ (S.2.2.2.2 j) = dz_hs F ∧ (S.2.2.2.2 j') = dz_hs F' := fun e1 e2 e3 => by
        subst e1 e2 e3
        have l1 := vx_in_len i1
        have l2 := vx_in_len i2
        have r1 := (q10 rfl).1
        have r2 := (q10' rfl).1
        rw [r1, dz_hs_len] at l1
        rw [r2, dz_hs_len] at l2
        exact ⟨by omega, r1, r2⟩
      refine w_dv_st4 (P := fun z => (0 ≤ z ∧ z < ((2 ^ rf_len F : Nat) : Int)) ∧ ∀ i : Nat, i < rf_len F → dv_tb z i = decide (dv_lk c ((dz_hs F).getD i (-1)) = dv_lk e ((dz_hs F').getD i (-1)))) (al := ((2 ^ rf_len F : Nat) : Int) - 1) (c_dv_isu hsL (d + 1) (by omega)) (c_dz_head hsL (d + 1) (by omega)) (fun e1 e2 e3 K' hK' => ?_) (fun _ K' hK' => ?_) (fun kp hkp => ?_) y1 (dv_at_z a1) (dv_at_z a3) (by omega) (fun e1 e2 e3 hP => ?_) (fun hn => hQ4 (fun j1 j1' m1 F1 F1' w1 w2 w3 => ?_))
      · rw [q3] at e1
        rw [q3'] at e2
        rw [q4, q4'] at e3
        exact c_dv_eqa hsL (d + 1) (by omega) F F' c e _ _ u K' y1 (dv_at_z a1) (dv_at_z a3) q6 q6' q11 q12 (len e1 e2 e3).1 a2 (Int.le_refl _) a4 (Int.le_refl _) (fun z z0 z1 z2 => hK' z ⟨⟨z0, z1⟩, z2⟩)
      · exact c_dv_ala hsL (d + 1) (by omega) _ (rf_len F) u K' y1 (dv_at_z a1) q11 q12 hK'
      · have := hkp.1
        omega
      · rw [q3] at e1
        rw [q3'] at e2
        rw [q4, q4'] at e3
        obtain ⟨ll, r1, r2⟩ := len e1 e2 e3
        subst e1 e2 e3
        obtain ⟨z1, z2, z3, z4, z5, z6, z7⟩ := hGu trivial
        refine hK1 u S PR tm r (fun _ _ _ => rfl) (vx_le_refl S) (fun _ => ⟨z1, z2, z3, z4, z5, z6, ?_⟩) (fun _ => ⟨_, _, _, _, _, hD, Or.inl ⟨rfl, vx_l2_refl S⟩⟩) hfr
        refine vx_J_same (j := j) (j' := j') (F := F) (F' := F') (u := h) (L := L) z7 (List.ext_getElem? (fun i => ?_))
        by_cases hi : i < rf_len F
        · have c1 := hP.2 i hi
          rw [dv_tb_all (by omega) (by omega), decide_eq_true hi] at c1
          have c2 := of_decide_eq_true c1.symm
          have h1 : i < (dz_hs F).length := by rw [dz_hs_len]; exact hi
          have h2' : i < (dz_hs F').length := by rw [dz_hs_len]; omega
          rw [vx_gD h1, vx_gD h2'] at c2
          rw [r1, r2, List.getElem?_map, List.getElem?_map, List.getElem?_eq_getElem h1, List.getElem?_eq_getElem h2']
          show some _ = some _
          rw [c2]
        · rw [List.getElem?_eq_none (by rw [List.length_map, r1, dz_hs_len]; omega), List.getElem?_eq_none (by rw [List.length_map, r2, dz_hs_len]; omega)]
      · injection w1 with w4 w5
        obtain ⟨e1, e2⟩ := Prod.mk.inj w5
        injection w2 with w6 w7
        obtain ⟨e3, e4⟩ := Prod.mk.inj w7
        have ee : h = h' := e2.trans e4.symm
        obtain ⟨kp, ⟨hk1, hk2⟩, hk3⟩ := hn (by rw [q3, e1]) (by rw [q3', e3]) (by rw [q4, q4', ee])
        obtain ⟨ll, r1, r2⟩ := len e1 e3 ee
        rw [← w4, ← w6, r1, r2] at w3
        refine hk3 (dv_tb_eq hk1.1 (by omega) (by omega) (by omega) (fun i hi => ?_))
        rw [dv_tb_all (by omega) hi]
        by_cases hl : i < rf_len F
        · rw [decide_eq_true hl, hk2 i hl]
          have h1 : i < (dz_hs F).length := by rw [dz_hs_len]; exact hl
          have h2' : i < (dz_hs F').length := by rw [dz_hs_len]; omega
          rw [vx_gD h1, vx_gD h2']
          have c1 := congrArg (fun l => l[i]?) w3
          try dsimp only at c1
          rw [List.getElem?_map, List.getElem?_map, List.getElem?_eq_getElem h1, List.getElem?_eq_getElem h2'] at c1
          exact decide_eq_true (Option.some.inj c1)
        · rw [decide_eq_false hl]
          exact dv_tb_hi hk1.2 (by omega)
    · obtain ⟨y1, y2, y3, y4, y5, y6, y7⟩ := hGu trivial
      obtain ⟨⟨a1, a2⟩, ⟨a3, a4⟩, a5⟩ := hcu trivial
      obtain ⟨lt, ty, s1, s2⟩ := h2 trivial
      have h29 := y1.fld 29 3 (by decide) rfl
      have fu1 : ∀ t, cx_F [(29, 33)] u t → cx_F [(29, 33), (38, 38)] u (sx_uf (sx_uf t.1 38 8 (t.1 33 7)) 38 9 (t.1 33 8), t.2) := fun t ht => cx_F_uf rfl (cx_F_uf rfl (cx_F_step ht rfl (cx_F_refl _ _)))
      refine w_dv_st68 (G1 := fun t => ∃ A' c', cx_I t ∧ cx_F [(29, 33)] u t ∧ dv_lf u t ∧ (∀ k, k ≠ 7 → k ≠ 8 → t.1 33 k = u.1 33 k) ∧ dv_at t S.2.2.2.2 A' (t.1 33 7) ∧ dv_c t c' (t.1 29 3) (t.1 33 8) ∧ vx_sd tv tc tm S lt L ty A' c' ∧ (vx_c2 S A' B (t.1 29 3) L r.length ∧ ∃ w, vw_wy S w A A') ∧ (∀ th, vx_So S th → vx_val th S.2.2.2.2 A (dv_lk c) L = vx_val th S.2.2.2.2 A' (dv_lk c') L) ∧ (∀ (j : Nat) (m : Int) (F : rf_N), A' = rf_n j 3 m F .leaf → S.2.2.2.1 m = none)) (G2 := fun t t' => ∃ A' c' B' e', (cx_I t ∧ cx_F [(29, 33)] u t ∧ dv_lf u t ∧ (∀ k, k ≠ 7 → k ≠ 8 → t.1 33 k = u.1 33 k) ∧ dv_at t S.2.2.2.2 A' (t.1 33 7) ∧ dv_c t c' (t.1 29 3) (t.1 33 8) ∧ vx_sd tv tc tm S lt L ty A' c' ∧ (vx_c2 S A' B (t.1 29 3) L r.length ∧ ∃ w, vw_wy S w A A') ∧ (∀ th, vx_So S th → vx_val th S.2.2.2.2 A (dv_lk c) L = vx_val th S.2.2.2.2 A' (dv_lk c') L) ∧ (∀ (j : Nat) (m : Int) (F : rf_N), A' = rf_n j 3 m F .leaf → S.2.2.2.1 m = none)) ∧ cx_I t' ∧ cx_F [(29, 33)] (sx_uf (sx_uf t.1 38 8 (t.1 33 7)) 38 9 (t.1 33 8), t.2) t' ∧ dv_lf (sx_uf (sx_uf t.1 38 8 (t.1 33 7)) 38 9 (t.1 33 8), t.2) t' ∧ (∀ k, k ≠ 7 → k ≠ 8 → t'.1 33 k = t.1 33 k) ∧ dv_at t' S.2.2.2.2 B' (t'.1 33 7) ∧ dv_c t' e' (t'.1 29 3) (t'.1 33 8) ∧ vx_sd tv tc tm S lt L ty B' e' ∧ (vx_c2 S A' B' (t'.1 29 3) L r.length ∧ ∃ w, vw_wy S w B B') ∧ (∀ th, vx_So S th → vx_val th S.2.2.2.2 B (dv_lk e) L = vx_val th S.2.2.2.2 B' (dv_lk e') L) ∧ (∀ (j : Nat) (m : Int) (F : rf_N), B' = rf_n j 3 m F .leaf → S.2.2.2.1 m = none)) (c_dv_anode hsL (d + 1) (by omega)) (c_dv_achain hsL (d + 1) (by omega)) (fun K' hK' => ?_) (fun t ⟨A', c', t1, t2, t3, t4, t5, t6, t7, t8, t9, t10⟩ iU K' hK' => ?_) (fun t ⟨_, _, h, _⟩ => h) (fun t t' ⟨_, _, _, _, _, h, _⟩ => h) y1 (fun t t' _ ⟨A', c', B', e', ⟨t1, t2, t3, t4, t5, t6, t7, t8, t9, t10⟩, w1, w2, w3, w4, w5, w6, w7, w8, w9, w10⟩ iU1 iU2 => ?_)
      · exact c_dv_sl hsL (d + 1) (by omega) S PR lt L ty A c (fun A' u' => vx_c2 S A' B u' L r.length ∧ ∃ w, vw_wy S w A A') _ _ u K' y1 y2 y3 y4 a1 a2 s1 ⟨hc2, [], rfl⟩ (fun j m F X e' v v' h1 h2' h3 h4 => ⟨vx_c2_l y4 h2' h3 h4 h1.1, by obtain ⟨w, hw⟩ := h1.2; exact ⟨w ++ [m], vw_wy_snoc h3 hw⟩⟩) (fun A' v h1 => by have := (vx_c2_bd hrk W g4 h1.1).1; omega) (fun t A' c' t1 t2 t3 t4 t5 t6 t7 t8 t9 t10 => hK' t ⟨A', c', t1, t2, t3, t4, t5, t6, t7, t8, t9, t10⟩)
      · have hF := fu1 t t2
        have nf : dv_nf (u.1 11 6) S.2.2.2.2 S.2.2.2.2 u (sx_uf (sx_uf t.1 38 8 (t.1 33 7)) 38 9 (t.1 33 8), t.2) := dv_nf_F _ hF (by decide)
        have hM : dv_M (sx_uf (sx_uf t.1 38 8 (t.1 33 7)) 38 9 (t.1 33 8), t.2) S PR := dv_M_fr (Int.le_refl _) (by rw [(hF.same 11 rfl).1]) nf (t4 6 (by decide) (by decide)) (hF.same 34 rfl).2 (hF.same 35 rfl).2 (hF.same 36 rfl).2 (hF.same 37 rfl).2 y2
        have e38 : t.1 38 = u.1 38 := (t2.same 38 rfl).1
        refine c_dv_sl hsL (d + 1) (by omega) S PR lt L ty B e (fun B' u' => vx_c2 S A' B' u' L r.length ∧ ∃ w, vw_wy S w B B') _ _ (sx_uf (sx_uf t.1 38 8 (t.1 33 7)) 38 9 (t.1 33 8), t.2) K' iU hM y3 y4 (by rw [e38]; exact dv_at_fr (Int.le_refl _) nf a3) ?_ s2 ⟨t8.1, [], rfl⟩ (fun j m F X e' v v' h1 h2' h3 h4 => ⟨vx_c2_r y4 h2' h3 h4 h1.1, by obtain ⟨w, hw⟩ := h1.2; exact ⟨w ++ [m], vw_wy_snoc h3 hw⟩⟩) (fun B' v h1 => by have := (vx_c2_bd hrk W g4 h1.1).1; omega) (fun t' B' e' w1 w2 w3 w4 w5 w6 w7 w8 w9 w10 => hK' t' ⟨A', c', B', e', ⟨t1, t2, t3, t4, t5, t6, t7, t8, t9, t10⟩, w1, w2, w3, w4, w5, w6, w7, w8, w9, w10⟩)
        rw [e38]
        exact dv_ch_hi (t3 trivial).1 (dv_ch_fr (t3 trivial).2 a4)
      · have hF1 := fu1 t t2
        have e38 : t.1 38 = u.1 38 := (t2.same 38 rfl).1
        have e38' : ∀ k, k ≠ 8 → k ≠ 9 → t'.1 38 k = u.1 38 k := fun k h8 h9 => by
          rw [(w2.same 38 rfl).1]
          show sx_uf (sx_uf t.1 38 8 (t.1 33 7)) 38 9 (t.1 33 8) 38 k = _
          rw [sx_uf_if, if_neg (by omega), sx_uf_if, if_neg (by omega), e38]
        have p8 : t'.1 38 8 = t.1 33 7 := by
          rw [(w2.same 38 rfl).1]
          show sx_uf (sx_uf t.1 38 8 (t.1 33 7)) 38 9 (t.1 33 8) 38 8 = _
          rw [sx_uf_if, if_neg (by omega), px_us]
        have p9 : t'.1 38 9 = t.1 33 8 := by
          rw [(w2.same 38 rfl).1]
          show sx_uf (sx_uf t.1 38 8 (t.1 33 7)) 38 9 (t.1 33 8) 38 9 = _
          exact px_us _ _ _ _
        have hF2 : cx_F [(29, 33), (38, 38), (46, 54)] u (sx_uf (sx_uf t'.1 38 10 (t'.1 33 7)) 38 11 (t'.1 33 8), t'.2) := cx_F_uf rfl (cx_F_uf rfl (cx_F_step w2 rfl (cx_F_step hF1 rfl (cx_F_refl _ _))))
        have lf2 : dv_lf t t' := fun _ => w3 trivial
        have lfu : dv_lf u (sx_uf (sx_uf t'.1 38 10 (t'.1 33 7)) 38 11 (t'.1 33 8), t'.2) := fun _ => (dv_lf_t t3 lf2) trivial
        have nf2 : dv_nf (t.1 11 6) S.2.2.2.2 S.2.2.2.2 t (sx_uf (sx_uf t'.1 38 10 (t'.1 33 7)) 38 11 (t'.1 33 8), t'.2) := fun _ => ⟨fun _ => ⟨by show t.1 11 6 ≤ t'.1 11 6; rw [(w2.same 11 rfl).1]; exact Int.le_refl _, fun i _ => by
          show t'.2.1 12 i = _ ∧ t'.2.1 13 i = _ ∧ t'.2.1 14 i = _ ∧ t'.2.1 15 i = _ ∧ t'.2.1 16 i = _
          rw [(w2.same 12 rfl).2, (w2.same 13 rfl).2, (w2.same 14 rfl).2, (w2.same 15 rfl).2, (w2.same 16 rfl).2]
          exact ⟨rfl, rfl, rfl, rfl, rfl⟩⟩, fun _ _ => rfl⟩
        have nf3 : dv_nf (t'.1 11 6) S.2.2.2.2 S.2.2.2.2 t' (sx_uf (sx_uf t'.1 38 10 (t'.1 33 7)) 38 11 (t'.1 33 8), t'.2) := fun _ => ⟨fun _ => ⟨Int.le_refl _, fun i _ => ⟨rfl, rfl, rfl, rfl, rfl⟩⟩, fun _ _ => rfl⟩
        have h2' : vx_2 tv tc tm S A' c' B' e' L := fun _ => ⟨lt, ty, t7, w7⟩
        have h2a : vx_2 tv tc tm S A' c' B e L := fun _ => ⟨lt, ty, t7, s2⟩
        have nA' : ¬ vx_isl A' := fun q => nB ((vx_2_lam h2a).mp q)
        obtain ⟨wa, hwa⟩ := t8.2
        obtain ⟨wb, hwb⟩ := w8.2
        refine ⟨1, by omega, rfl, dx_fr_t hfr (dx_fr_F hF2 (cx_F_step hF2 rfl (cx_F_refl _ _)) (by decide)), A', c', B', e', L, ⟨dv_G_F hGu iU2 hF2 (by show t'.1 33 6 = u.1 33 6; rw [w4 6 (by decide) (by decide)]; exact t4 6 (by decide) (by decide)) lfu (dv_G_rep hGu (fun th hS => ?_)), fun _ => ⟨⟨?_, ?_⟩, ⟨?_, ?_⟩, ?_⟩, h2', ⟨nA', fun q => nA' ((vx_2_lam h2').mpr q)⟩, w8.1⟩, Or.inr (Or.inr ⟨rfl, ⟨⟨t10, w10⟩, A, c, B, e, wa, wb, hD, hne, hwa, hwb⟩, rfl⟩)⟩
        · show vx_val th S.2.2.2.2 A (dv_lk c) L = vx_val th S.2.2.2.2 B (dv_lk e) L ↔ vx_val th S.2.2.2.2 A' (dv_lk c') L = vx_val th S.2.2.2.2 B' (dv_lk e') L
          rw [t9 th hS, w9 th hS]
        · show dv_at _ S.2.2.2.2 A' (t'.1 38 8)
          rw [p8]
          exact dv_at_fr (Int.le_refl _) nf2 t5
        · show dv_c t' c' (t'.1 29 3) (t'.1 38 9)
          rw [p9]
          exact dv_ch_hi (lf2 trivial).1 (dv_c_lf lf2 (Int.le_refl _) t6)
        · exact dv_at_fr (Int.le_refl _) nf3 w5
        · exact w6
        · show t'.1 38 12 = L
          rw [e38' 12 (by decide) (by decide)]
          exact a5
    · obtain ⟨y1, y2, y3, y4, ⟨y5, y5'⟩, y6, y7⟩ := hGu trivial
      obtain ⟨⟨a1, a2⟩, ⟨a3, a4⟩, a5⟩ := hcu trivial
      obtain ⟨lt, ty, s1, s2⟩ := h2 trivial
      obtain ⟨⟨i1, ⟨j, k, h, F, rfl⟩, t1⟩, _⟩ := s1 trivial
      obtain ⟨⟨i2, ⟨j', k', h', F', rfl⟩, t2⟩, _⟩ := s2 trivial
      obtain ⟨_, _, q3, q4, _, q6, q7, q8, q9, _⟩ := dv_at_hd a1
      obtain ⟨_, _, q3', q4', _, q6', q7', q8', q9', _⟩ := dv_at_hd a3
      have hk0 : k ≠ 0 := fun q => nA ⟨j, h, F, by rw [q]⟩
      have hk0' : k' ≠ 0 := fun q => nB ⟨j', h', F', by rw [q]⟩
      obtain ⟨c1, c2, c3⟩ := vx_c2_bd hrk W g4 hc2
      refine w_dv_st142 (Gm := fun t => ∃ S' PR' tm', dx_tm S tm tm' ∧ vx_l2 (fun _ => False) S S' ∧ dv_G tv tc n0 Qs t S' PR' tm' [] r ∧ dx_fr s t) (Gg := fun z t => (z = 0 ∧ cx_I t ∧ vx_NO n0 Qs S) ∨ (z = 1 ∧ ∃ S' PR' tm', dx_tm S tm tm' ∧ vx_l2 (fun C => C = rf_n j' k' h' F' .leaf) S S' ∧ dv_G tv tc n0 Qs t S' PR' tm' [] r ∧ dx_fr s t)) (Gh := fun z t => (z = 0 ∧ cx_I t ∧ vx_NO n0 Qs S) ∨ (z = 1 ∧ ∃ S' PR' tm', dx_tm S tm tm' ∧ vx_l2 (fun C => C = rf_n j k h F .leaf) S S' ∧ dv_G tv tc n0 Qs t S' PR' tm' [] r ∧ dx_fr s t)) (Gt := fun z t => (z = 0 ∧ cx_I t ∧ vx_NO n0 Qs S) ∨ (z = 1 ∧ ∃ r', dv_G tv tc n0 Qs t S PR tm [] r' ∧ (k ≠ 3 ∧ k' ≠ 3) ∧ rf_len F = rf_len F' ∧ r' = dv_zp F F' c e L (u.1 29 3) ++ r ∧ dx_fr s t)) (c_dv_isu hsL (d + 1) (by omega)) (c_dz_head hsL (d + 1) (by omega)) (c_dv_sw hsL (d + 1) (by omega)) (fun e1 e2 e3 K' hK' => ?_) (fun e1 e2 K' hK' => ?_) (fun e1 e2 hI2 K' hK' => ?_) (fun e1 e2 K' hK' => ?_) ⟨fun z t ht => ?_, fun z t ht => ?_, fun z t ht => ?_⟩ y1 (dv_at_z a1) (dv_at_z a3) (fun _ _ _ t ⟨S', PR', tm', zh0, h1, h2', hf⟩ => hK1 t S' PR' tm' r zh0 h1.1 h2' (fun _ => ⟨A0, c0, B0, e0, L, hD, Or.inl ⟨rfl, vx_l2_im (fun _ q => q.elim) h1⟩⟩) hf) (fun _ _ z t ht => ?_) (fun _ _ z t ht => ?_) (fun _ _ z t ht => ?_)
      · rw [q3] at e1
        rw [q3'] at e2
        rw [q4, q4'] at e3
        subst e1 e2 e3
        exact c_dx_me hsL (d + 1) (by omega) hQ S PR tm r j j' h F F' c e L u K' hGu hcu h2 (stA j h F rfl) (fun t S' PR' tm' zh0 h1 h2' hf => hK' t ⟨S', PR', tm', zh0, h1, h2', dx_fr_t hfr hf⟩)
      · rw [q3] at e1
        rw [q3', q4, q4'] at e2
        subst e1
        obtain ⟨bs, hb1, hb2⟩ := vx_c1_0 hrk W g4 hc2
        exact c_dx_gv hsL (d + 1) (by omega) hQ S PR tm r j h F _ c e L bs u K' hGu hcu h2 (stA j h F rfl) (fun j1 m1 F1 e => by
          have e3 := e
          injection e3 with _ e4
          obtain ⟨e5, e6⟩ := Prod.mk.inj e4
          exact ⟨fun q => e2 e5 (by rw [e6, q]), stB j1 m1 F1 e⟩) hb1 hb2 (fun t h1 _ h3 => hK' 0 t (Or.inl ⟨rfl, h1, h3⟩)) (fun t S' PR' tm' zh0 h1 h2' hf => hK' 1 t (Or.inr ⟨rfl, S', PR', tm', zh0, h1, h2', dx_fr_t hfr hf⟩))
      · rw [q3] at e1
        rw [q3'] at e2
        subst e2
        obtain ⟨bs, hb1, hb2⟩ := vx_c1_1 hrk W g4 hc2
        have hFs : cx_F [(29, 33), (38, 38), (46, 54)] u (sx_uf (sx_uf (sx_uf (sx_uf u.1 38 8 (u.1 38 10)) 38 10 (u.1 38 8)) 38 9 (u.1 38 11)) 38 11 (u.1 38 9), u.2) := cx_F_uf rfl (cx_F_uf rfl (cx_F_uf rfl (cx_F_uf rfl (cx_F_refl _ _))))
        have nf : dv_nf (u.1 11 6) S.2.2.2.2 S.2.2.2.2 u (sx_uf (sx_uf (sx_uf (sx_uf u.1 38 8 (u.1 38 10)) 38 10 (u.1 38 8)) 38 9 (u.1 38 11)) 38 11 (u.1 38 9), u.2) := dv_nf_F _ hFs (by decide)
        have hGs := dv_G_F (ps' := [((rf_n j' 3 h' F' .leaf, dv_lk e), (rf_n j k h F .leaf, dv_lk c), L)]) hGu hI2 hFs rfl (fun _ => ⟨Int.le_refl _, fun _ _ => ⟨rfl, rfl, rfl⟩⟩) (dv_G_rep hGu (fun th _ => ⟨fun q => Eq.symm q, fun q => Eq.symm q⟩))
        exact c_dx_gv hsL (d + 1) (by omega) hQ S PR tm r j' h' F' _ e c L bs (sx_uf (sx_uf (sx_uf (sx_uf u.1 38 8 (u.1 38 10)) 38 10 (u.1 38 8)) 38 9 (u.1 38 11)) 38 11 (u.1 38 9), u.2) K' hGs (fun _ => ⟨⟨dv_at_fr (Int.le_refl _) nf a3, a4⟩, ⟨dv_at_fr (Int.le_refl _) nf a1, a2⟩, a5⟩) (fun _ => ⟨lt, ty, s2, s1⟩) (stB j' h' F' rfl) (fun j1 m1 F1 e => by
          injection e with _ e4
          exact absurd (Prod.mk.inj e4).1 e1) hb1 hb2 (fun t h1 _ h3 => hK' 0 t (Or.inl ⟨rfl, h1, h3⟩)) (fun t S' PR' tm' zh0 h1 h2' hf => hK' 1 t (Or.inr ⟨rfl, S', PR', tm', zh0, h1, h2', dx_fr_t hfr (dx_fr_t (dx_fr_F hFs (cx_F_step hFs rfl (cx_F_refl _ _)) (by decide)) hf)⟩))
      · rw [q3] at e1
        rw [q3'] at e2
        obtain ⟨q11, q12⟩ := q7 hk0
        have no : (∀ th, vx_So S th → ¬ vx_pe th S.2.2.2.2 ((rf_n j k h F .leaf, dv_lk c), (rf_n j' k' h' F' .leaf, dv_lk e), L)) → vx_NO n0 Qs S := fun hn => vx_J_no y7 hQ hn
        have row : ∀ th, vx_So S th → (vx_pe th S.2.2.2.2 ((rf_n j k h F .leaf, dv_lk c), (rf_n j' k' h' F' .leaf, dv_lk e), L) ↔ k = k' ∧ (if k = 2 then dv_lk c h else h) = (if k' = 2 then dv_lk e h' else h') ∧ vx_val th S.2.2.2.2 F (dv_lk c) L = vx_val th S.2.2.2.2 F' (dv_lk e) L) := fun th _ => vx_eq_rig hk0 e1 hk0' e2
        refine c_dv_ta hsL (d + 1) (by omega) S.2.2.2.2 r c e L j k h F j' k' h' F' u K' y1 hcu (by omega) (by omega) y5 y5' (by omega) (fun hn => hK' 0 u (Or.inl ⟨rfl, y1, no (fun th hS hp => ?_)⟩)) (fun f1 f2 f3 f4 t t1' t2' t3' t4' => hK' 1 t (Or.inr ⟨rfl, dv_zp F F' c e L (u.1 29 3) ++ r, fun _ => ⟨t1', ?_, y3, y4, ⟨t3', ?_⟩, ?_, ?_⟩, ⟨e1, e2⟩, f2, rfl, dx_fr_t hfr (dx_fr_F t2' (cx_F_step t2' rfl (cx_F_refl _ _)) (by decide))⟩))
        · obtain ⟨p1, p2, p3⟩ := (row th hS).mp hp
          have p4 := (vx_eq_row (fun m => (hS.1 m).1)).mp p3
          rw [vx_el_len, vx_el_len] at p4
          rcases hn with hn | hn | ⟨hn, hn'⟩ | ⟨hn, hn'⟩
          · exact hn p1
          · exact hn p4.1
          · rw [if_pos hn, if_pos (by omega)] at p2
            exact hn' p2
          · rw [if_neg hn, if_neg (by omega)] at p2
            exact hn' p2
        · have nf : dv_nf (u.1 11 6) S.2.2.2.2 S.2.2.2.2 u t := dv_nf_F _ t2' (by decide)
          exact dv_M_fr (Int.le_refl _) (by rw [(t2'.same 11 rfl).1]) nf (by rw [(t2'.same 33 rfl).1]) (t2'.same 34 rfl).2 (t2'.same 35 rfl).2 (t2'.same 36 rfl).2 (t2'.same 37 rfl).2 y2
        · rw [List.length_append, dv_zp_len f2, t4']
          omega
        · have tt : ∃ uu, (vx_ty tv tc tm S.2.2.2.2 F).2 uu ∧ (vx_ty tv tc tm S.2.2.2.2 F').2 uu := by
            rcases t1 with ⟨w, _⟩ | ⟨w, _, w1⟩ | ⟨w, _, w1⟩ | ⟨w, _⟩
            · exact absurd w hk0
            · rcases t2 with ⟨w', _⟩ | ⟨w', _, w1'⟩ | ⟨w', _, w1'⟩ | ⟨w', _⟩
              · exact absurd w' hk0'
              · have w' : k = 1 := w
                have e5 : h = h' := f4 (by omega)
                have w1'' : (vx_ty tv tc tm S.2.2.2.2 F').2 (tc h') := w1'
                rw [← e5] at w1''
                exact ⟨_, w1, w1''⟩
              · have wa : k = 1 := w
                have wb : k' = 2 := w'
                omega
              · exact absurd w' e2
            · rcases t2 with ⟨w', _⟩ | ⟨w', _, w1'⟩ | ⟨w', _, w1'⟩ | ⟨w', _⟩
              · exact absurd w' hk0'
              · have wa : k = 2 := w
                have wb : k' = 1 := w'
                omega
              · have wa : k = 2 := w
                have wb : k' = 2 := w'
                subst wa wb
                obtain ⟨_, z2⟩ := vx_sd_var s1
                obtain ⟨_, z2'⟩ := vx_sd_var s2
                have w1'' : (vx_ty tv tc tm S.2.2.2.2 F').2 (tv h') := w1'
                rw [z2', ← f3 rfl, ← z2] at w1''
                exact ⟨_, w1, w1''⟩
              · exact absurd w' e2
            · exact absurd w e1
          obtain ⟨uu, tF, tF'⟩ := tt
          exact dv_es_zp hk0 e1 hk0' e2 y6 q12 s1 s2 tF tF' hc2
        · show vx_J S n0 Qs ((dv_zp F F' c e L (u.1 29 3) ++ r).map dv_pe)
          rw [List.map_append]
          refine vx_J_rep y7 (fun th hS => ?_)
          rw [row th hS]
          have er := vx_eq_row (AR := S.2.2.2.2) (fun m => (hS.1 m).1) (e := dv_lk c) (d := dv_lk e) (L := L) (F := F) (F' := F')
          rw [er, vx_el_len, vx_el_len]
          constructor
          · rintro ⟨_, _, _, hh⟩ q hq
            obtain ⟨w, w1, rfl⟩ := List.mem_map.mp hq
            obtain ⟨i, w2, w3⟩ := List.getElem_of_mem w1
            have w4 : (dv_zp F F' c e L (u.1 29 3))[i]? = some w := by rw [List.getElem?_eq_getElem w2, w3]
            rw [dv_zp_len f2] at w2
            have z1 : i < (vx_el F).length := by rw [vx_el_len]; exact w2
            have z2 : i < (vx_el F').length := by rw [vx_el_len]; omega
            have w5 := dv_zp_at (c := c) (d := e) (L := L) (mk := u.1 29 3) (List.getElem?_eq_getElem z1) (List.getElem?_eq_getElem z2)
            rw [w5] at w4
            rw [← Option.some.inj w4]
            exact hh i _ _ (List.getElem?_eq_getElem z1) (List.getElem?_eq_getElem z2)
          · intro hh
            refine ⟨f1, ?_, f2, fun i A B eA eB => ?_⟩
            · by_cases q : k = 2
              · rw [if_pos q, if_pos (by omega)]
                exact f3 q
              · rw [if_neg q, if_neg (by omega)]
                exact f4 q
            · have w5 := dv_zp_at (c := c) (d := e) (L := L) (mk := u.1 29 3) eA eB
              exact hh _ (List.mem_map_of_mem (List.mem_of_getElem? w5))
      · rcases ht with ⟨q, _⟩ | ⟨q, _⟩
        · exact Or.inl q
        · exact Or.inr q
      · rcases ht with ⟨q, _⟩ | ⟨q, _⟩
        · exact Or.inl q
        · exact Or.inr q
      · rcases ht with ⟨q, _⟩ | ⟨q, _⟩
        · exact Or.inl q
        · exact Or.inr q
      · rcases ht with ⟨rfl, h1, h3⟩ | ⟨rfl, S', PR', tm', zh0, h1, h3, hf⟩
        · exact hK0 t h1 h3
        · exact hK1 t S' PR' tm' r zh0 h1.1 h3 (fun _ => ⟨A0, c0, B0, e0, L, hD, Or.inl ⟨rfl, vx_l2_im (fun C q => ⟨wb, Or.inr (by rw [q]; exact hwb)⟩) h1⟩⟩) hf
      · rcases ht with ⟨rfl, h1, h3⟩ | ⟨rfl, S', PR', tm', zh0, h1, h3, hf⟩
        · exact hK0 t h1 h3
        · exact hK1 t S' PR' tm' r zh0 h1.1 h3 (fun _ => ⟨A0, c0, B0, e0, L, hD, Or.inl ⟨rfl, vx_l2_im (fun C q => ⟨wa, Or.inl (by rw [q]; exact hwa)⟩) h1⟩⟩) hf
      · rcases ht with ⟨rfl, h1, h3⟩ | ⟨rfl, r', h3, ⟨n3, n3'⟩, ln, rr, hf⟩
        · exact hK0 t h1 h3
        · exact hK1 t S PR tm r' (fun _ _ _ => rfl) (vx_le_refl S) h3 (fun _ => ⟨A0, c0, B0, e0, L, hD, Or.inr ⟨rfl, hne, wa, wb, j, k, h, F, j', k', h', F', c, e, _, hwa, hwb, ⟨hk0, n3, hk0', n3'⟩, ln, rr⟩⟩) hf
end
