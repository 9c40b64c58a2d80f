/-! ===== the reference: bind, and the solutions ===== -/
theorem vr_MI_bind {v t : sx_S} {g : rf_Gh} {N : Int → rf_T → Prop} {B : rf_N} {y : rf_Y} {W : List Nat} {p : Nat} {b bb m row : Int} (hM : rf_MI (v.1 66 71) (v.1 66 58) v g) (k : rf_CL v g N B y .leaf W p b bb) (k3 : v.2.1 100 b.toNat ≠ 3) (hm : 0 ≤ m ∧ m < v.1 66 61) (ho : v.2.1 111 m.toNat = 0) (hrow : 0 ≤ row ∧ row + rf_aa v m ≤ v.1 66 56) (hf2 : ∀ q : Nat, (q : Int) < rf_aa v m → ∃ T, rf_py v m q T ∧ rf_vb (v.1 66 58) v (v.2.1 105 (row + (q : Int)).toNat) T) (hf3 : ∀ p q : Nat, (p : Int) < rf_aa v m → (q : Int) < rf_aa v m → v.2.1 105 (row + (p : Int)).toNat = v.2.1 105 (row + (q : Int)).toNat → p = q) (hgv : ∀ w, (rf_fo (rf_Wd v g.2.2) B).1 w → rf_gv v m row (v.1 66 58) (rf_look y w)) (hac : ∀ x, (rf_oc B).1 x → x ≠ m ∧ ¬ rf_rc (rf_Ed v g) x m) (hA : rf_AS v t m row b bb) : ∃ g' : rf_Gh, rf_MI (v.1 66 71) (v.1 66 58) t g' ∧ rf_EG v g g' ∧ rf_ph t g' ≤ rf_ph v g ∧ rf_qu t + 1 ≤ rf_qu v ∧ g'.1 m = B ∧ g'.2.1 m = y := by
  have hE : rf_EX (v.1 66 71) (v.1 66 58) v t := rf_AS_EX hm.1 ho hA
  obtain ⟨a1, a2, a3, a4, a5, a6, a7, a8, a9⟩ := hA
  have e61 := a3 61 rfl
  have e56 := a3 56 rfl
  obtain ⟨j, kk, uu, f, n, eB, e1, e2, e3, e4, e5, _⟩ := rf_CL_node k
  have hN0 : ∀ w T, ¬ N w T := k.1.2.2.1.2.elim (fun z => by
    rw [eB] at z
    have z2 : kk.1 = 3 := z
    rw [e2, e4] at k3
    exact absurd z2 k3) id
  have kc := k
  obtain ⟨⟨c1, c2, c3, ⟨y1, y2, y3, y4⟩⟩, ⟨d1, d2⟩, d3, d4⟩ := k
  have hft := rf_fo_typed hM.ub c1 c2 ⟨y1, y2, y3, y4⟩
  have eaa := hE.aa hm.1 hm.2
  have s105 : t.2.1 105 = v.2.1 105 := (a2.same 105 rfl).2
  have hfm : ∀ q, rf_fm t m q = v.2.1 105 (row + (q : Int)).toNat := fun q => by
    unfold rf_fm
    rw [s105, a7]
  have e111 : ∀ q : Nat, (q : Int) < v.1 66 61 → (q : Int) ≠ m → t.2.1 111 q = v.2.1 111 q := fun q _ hq => a5 111 q (by omega) (by omega) hq
  have ht0 : t.2.1 111 m.toNat ≠ 0 := by rw [a6]; decide
  generalize hg : ((fun z => if z = m then B else g.1 z, fun z => if z = m then y else g.2.1 z, fun z q => if z = m then (q : Int) < rf_aa v m else g.2.2 z q) : rf_Gh) = g'
  have b1 : g'.1 m = B := by rw [← hg]; exact if_pos rfl
  have b2 : g'.2.1 m = y := by rw [← hg]; exact if_pos rfl
  have b3 : ∀ q : Nat, g'.2.2 m q ↔ (q : Int) < rf_aa v m := fun q => by
    rw [← hg]
    dsimp only
    rw [if_pos rfl]
  have f1 : ∀ z, z ≠ m → g'.1 z = g.1 z := fun z e => by rw [← hg]; exact if_neg e
  have f2 : ∀ z, z ≠ m → g'.2.1 z = g.2.1 z := fun z e => by rw [← hg]; exact if_neg e
  have f3 : ∀ z, z ≠ m → g'.2.2 z = g.2.2 z := fun z e => by
    rw [← hg]
    funext q
    exact if_neg e
  have hU : ∀ r q, 0 ≤ r → r < v.1 66 61 → g'.2.2 r q → g.2.2 r q ∧ (q : Int) < rf_aa v r := fun r q r0 r1 hq => by
    by_cases c : r = m
    · subst c
      have := (b3 q).mp hq
      exact ⟨(hM.1 r r0 r1).2.2.1 ho q this, this⟩
    · rw [f3 r c] at hq
      exact ⟨hq, hM.ub r q r0 r1 hq⟩
  have hbn := (rf_bn_gn c1).1 _ c2
  have hfo := (rf_Wd_up hE hU (n := B)).1 hbn
  have hSV : rf_SV (v.1 66 71) (v.1 66 58) t g' m := by
    unfold rf_SV
    rw [b1, b2, a7, a8, a9, eaa, e56]
    refine ⟨⟨hE.no c1, (rf_gn_up hE (Int.le_refl _) (fun w T z => absurd z (hN0 w T)) c1).1 _ c2, d3, (rf_di_up hE hU).1 hbn d1⟩, ⟨rf_by_mono (fun q hq => (hE.2 q).2.2.2.2.2 hq) (Int.le_refl _) y1, y2, rf_okV_up hE (Int.le_refl _) y2 (fun w T z => y3 w T (z.imp id (fun q => q.elim))), by omega⟩, ⟨hrow, fun q hq => ?_, Or.inr (fun q hq => ?_), fun p q hp hq e => ?_⟩, fun w hw => ?_, fun w w' hw hw' => d2 w w' (hfo w hw) (hfo w' hw')⟩
    · obtain ⟨T, t1, t2⟩ := hf2 q hq
      rw [hfm]
      exact Or.inl ⟨T, hE.pt hm.1 hm.2 t1, (hE.vb (Int.le_refl _) _ _).mpr t2⟩
    · obtain ⟨T, t1, t2⟩ := hf2 q hq
      rw [hfm]
      exact t2.1.1
    · rw [hfm, hfm] at e
      exact hf3 p q hp hq e
    · obtain ⟨T, hT⟩ := hft w (hfo w hw)
      rcases hgv w (hfo w hw) with z | ⟨q, q1, q2⟩
      · have := hT.1.2
        omega
      · exact ⟨q, (b3 q).mpr q1, by rw [hfm]; exact q2⟩
  have hset := rf_MI_set hE (Int.le_refl _) (Int.le_refl _) hm.1 hm.2 e61 ho ht0 e111 f1 f2 f3 (fun q hq => (b3 q).mp hq) hSV (by rw [b1]; exact hac) hM
  refine ⟨g', hset.1, hset.2, ?_, ?_, b1, b2⟩
  · have := rf_ph_set (g := g) (g' := g') hm.1 hm.2 e61 ho ht0 (fun q hq hq2 => ⟨e111 q hq hq2, by rw [(a2.same 108 rfl).2]⟩) f1
    rw [b1] at this
    omega
  · have := rf_qu_set hm.1 hm.2 e61 ho ht0 (fun q hq hq2 => ⟨e111 q hq hq2, by rw [(a2.same 108 rfl).2]⟩)
    omega
theorem vr_gv_mk {nb ib : Int} {v t : sx_S} {g g' : rf_Gh} {AR : Nat → List Int} {m row b bb : Int} {B : rf_N} (hI : cx_I v) (hM : rf_MI nb ib v g) (hG : rf_EG v g g') (hV : vr_G v g AR) (hm : 0 ≤ m ∧ m < v.1 66 61) (ho : v.2.1 111 m.toNat = 0) (hA : rf_AS v t m row b bb) (eB : g'.1 m = B) (tB : vr_t v AR B) : vx_gv (vr_S v g AR) (vr_S t g' AR) m (vr_1 B) (vr_e t g' m) ∧ vr_G t g' AR := by
  have hE : rf_EX nb ib v t := rf_AS_EX hm.1 ho hA
  obtain ⟨a1, a2, a3, a4, a5, a6, a7, a8, a9⟩ := hA
  have e61 := a3 61 rfl
  have e50 := a3 50 rfl
  have ht0 : t.2.1 111 m.toNat ≠ 0 := by rw [a6]; decide
  have e111 : ∀ x : Int, 0 ≤ x → x ≠ m → t.2.1 111 x.toNat = v.2.1 111 x.toNat := fun x h0 hx => a5 111 _ (by omega) (by omega) (by omega)
  have ear : vr_ar t = vr_ar v := by
    funext x
    unfold vr_ar rf_aa
    rw [e61, (a2.same 108 rfl).2]
  refine ⟨⟨⟨e61, e50, ear, rfl⟩, ⟨vr_bo_no ho, hm.1, hm.2⟩, fun x => ?_, ⟨(vr_in hI).1 tB, vr_1_ne (vr_t_ne tB), vr_1_1 _⟩, fun z => ?_⟩, fun x h0 h1 hs => ?_⟩
  · show vr_bo t g' x = if x = m then some (vr_1 B, vr_e t g' m) else vr_bo v g x
    by_cases c : x = m
    · rw [if_pos c, c, vr_bo_at (by omega) ht0, eB]
    · rw [if_neg c]
      by_cases c2 : 0 ≤ x ∧ x < v.1 66 61
      · have e1 := e111 x c2.1 c
        by_cases cs : v.2.1 111 x.toNat = 0
        · rw [vr_bo_no cs, vr_bo_no (by rw [e1]; exact cs)]
        · exact vr_bo_up hE hG hM c2 cs
      · rw [vr_bo_out c2, vr_bo_out (by omega)]
  · show vr_e t g' m z < vr_ar v m
    rw [← ear, vr_ar_at (by omega)]
    exact vr_e_lt a1 g' m z
  · by_cases c : x = m
    · rw [c, eB]
      exact (vr_t_up hE (fun _ _ => rfl)).1 tB
    · rw [e111 x h0 c] at hs
      rw [((hG x h0 (by omega)).1 hs).1]
      exact (vr_t_up hE (fun _ _ => rfl)).1 (hV x h0 (by omega) hs)
theorem c_v_bind {sL : Nat} {sx : Nat → Int32} (hsL : sL ≤ 3072) : ∀ (NA NB : Int → rf_T → Prop) (A B : rf_N) (yA yB : rf_Y) (x : rf_T) (WA WB : List Nat) (pa pb p d : Nat) (a ba b bb : Int) (s : sx_S) (g : rf_Gh) (AR : Nat → List Int) (K : Int → sx_S → Prop), pb + 140 ≤ d → cx_I s → rf_MI (s.1 66 71) (s.1 66 58) s g → rf_ph s g ≤ 1150 → rf_RM 0 s → vr_G s g AR → vr_t s AR A → vr_t s AR B → rf_CL s g NA A yA x WA pa a ba → rf_CL s g NB B yB x WB pb b bb → s.2.1 100 a.toNat = 3 → s.2.1 100 b.toNat ≠ 3 → s.2.1 111 (s.2.1 101 a.toNat).toNat = 0 → s.1 66 71 + (pb : Int) ≤ 399900 → s.1 66 58 + (pb : Int) ≤ 399900 → (∀ z t, vr_PU s t g AR z p (vr_E AR A yA B yB (s.1 66 58)) → K z t) → sx_C sL sx d 198 [.inr (.inl 66), .inl a, .inl ba, .inl b, .inl bb] s K := by
  intro NA NB A B yA yB x WA WB pa pb p d a ba b bb s g AR K hd hI hM hph hR hV tA tB kA kB hA3 hB3 ho h71 h58 hK
  obtain ⟨d, rfl⟩ : ∃ e, d = e + 2 := ⟨d - 2, by omega⟩
  have pA := rf_CL_b hI kA
  obtain ⟨m0, m1, hx, _⟩ := rf_CL_3 kA hA3
  subst hx
  obtain ⟨mm, hmm⟩ : ∃ m, m = s.2.1 101 a.toNat := ⟨_, rfl⟩
  have hEV : ∀ th, vx_gd th → vr_V th AR A yA (s.1 66 58) = vx_re (vx_ix ((List.range (rf_aa s mm).toNat).map (rf_vo s yA a)) (s.1 66 58)) (th mm) := fun th hg => vr_E_3 kA hA3 hmm tA (fun m => (hg m).1)
  have hBk : ¬ rf_k3 B := fun z => by
    obtain ⟨j, kk, uu, f, n, eB, e1, e2, e3, e4, e5, _⟩ := rf_CL_node kB
    rw [eB] at z
    rw [e2, e4] at hB3
    exact hB3 z
  rw [← hmm] at m0 m1 ho
  have har : rf_aa s mm = s.2.1 108 mm.toNat := rfl
  have hR2 := hR
  obtain ⟨q1, q2, q3, q4, q5, q6⟩ := hR
  have r108 := hI.arr 108 (by decide) rfl mm.toNat
  have r56 := hI.fld 66 56 (by decide) rfl
  have r61 := hI.fld 66 61 (by decide) rfl
  have r58 := hI.fld 66 58 (by decide) rfl
  have r71 := hI.fld 66 71 (by decide) rfl
  have yA4 := kA.1.2.2.2
  have dA : rf_dp yA ≤ 100 := by have := yA4.2.2.2; omega
  refine sx_methL (wr := true) (n := 400) (n' := 400) (stop := [(19, [0, 3, 4, 5, 6, 7])]) (fun ms pc ls u => (pc = 19 ∧ ∃ x5 x6 x7 : Int, ls = [(0, .inr (.inl 66)), (3, .inl b), (4, .inl bb), (5, .inl x5), (6, .inl x6), (7, .inl x7)] ∧ x6 = mm ∧ (rf_BB s u mm x5 ∧ ∀ q : Nat, (q : Int) < rf_aa u mm → u.2.1 105 (x5 + (q : Int)).toNat = rf_vo s yA a q) ∧ (0 ≤ x7 ∧ x7 ≤ s.1 66 61) ∧ (∀ q : Nat, (q : Int) < x7 → u.2.1 124 q = 0) ∧ ms = (3000 - x7).toNat)) hsL (e := eX12_bind) rfl ?_ ?_
  · refine w_bind (PA := fun z t => cx_I t ∧ (rf_BB s t mm z ∧ ∀ q : Nat, (q : Int) < rf_aa t mm → t.2.1 105 (z + (q : Int)).toNat = rf_vo s yA a q) ∧ t.2.1 101 = s.2.1 101) pA ?_ ?_ ?_
    · intro K' hK'
      refine c_r_actual hsL 100 (d + 1) (by omega) yA a ba (s.2.1 108 mm.toNat) s K' hI pA (by omega) (by rw [hmm]) (by omega) (fun k hk => by omega) dA yA4.1 (fun z t c1 c2 c3 c4 c5 c6 c7 => hK' z t ⟨c1, ?_, (c2.same 101 rfl).2⟩)
      obtain ⟨hE, hFS⟩ := rf_EX_row (nb := s.1 66 71) (ib := s.1 66 58) c2 c3 c6 (by omega)
      have hNC : rf_NC s t := rf_NC_F c2 rfl c3 rfl
      obtain ⟨z1, z2, z3, z4⟩ := rf_act_ok hM kA hA3 hmm ho c2 c3 c4 c5 c6 c7 r108.1 r56.1
      refine ⟨⟨⟨c1, hE, hNC, hFS⟩, ⟨c3 71 rfl, c3 58 rfl, c3 70 rfl, c3 50 rfl, c3 61 rfl, c3 64 rfl, by omega, by omega⟩, z2, z3, z4⟩, fun q hq => c7 q ?_⟩
      have : rf_aa t mm = s.2.1 108 mm.toNat := by unfold rf_aa; rw [(c2.same 108 rfl).2]
      omega
    · rintro z t ⟨c1, _⟩
      exact c1
    · rintro z t ⟨c1, c2, c3⟩ m hm
      exact ⟨_, rfl, z, m, 0, rfl, by rw [hm, c3, hmm], c2, by omega, fun q hq => by omega, rfl⟩
  · rintro ms pc ls u ⟨rfl, x5, x6, x7, rfl, rfl, ⟨hB, hBc⟩, h7, hz, rfl⟩
    have hB2 := hB
    obtain ⟨⟨u1, u2, u3, u4⟩, ⟨u71, u58, u70, u50, u61, u64, u56, u56'⟩, ⟨c1, c2⟩, c3, c4⟩ := hB
    have hmw : 0 ≤ x6 ∧ x6 < u.1 66 61 := by omega
    have rau := u1.arr 108 (by decide) rfl x6.toNat
    have rau2 : rf_aa u x6 = u.2.1 108 x6.toNat := rfl
    have ru56 := u1.fld 66 56 (by decide) rfl
    have hMu : rf_MI (u.1 66 71) (u.1 66 58) u g := rf_NC_MI u2 u3 (by omega) (by omega) hM
    have kBu := rf_CL_up u2 (by omega) (by omega) (rf_EG_refl s g) hM.ub kB
    have hqu : rf_qu u = rf_qu s := rf_NC_qu u2 u3
    have hphu : rf_ph u g = rf_ph s g := rf_NC_ph u2 u3
    have hou : u.2.1 111 x6.toNat = 0 := by rw [u3.2 _ (by omega)]; exact ho
    have hVu : vr_G u g AR := vr_G_up u2 (rf_EG_refl _ _) u3 (fun _ _ => rfl) hV
    have tBu : vr_t u AR B := (vr_t_up u2 (fun _ _ => rfl)).1 tB
    have eS : vr_S u g AR = vr_S s g AR := vr_S_NC u2 u3 u50 hM
    have eau : rf_aa u x6 = rf_aa s x6 := u2.aa m0.1 m0.2
    have hPK : ∀ th, vx_So (vr_S s g AR) th → vr_E AR A yA B yB (s.1 66 58) th → vr_K (rf_gv u x6 x5 (u.1 66 58)) x6 AR B yB (u.1 66 58) th := fun th hS hp => by
      have hp' : vr_V th AR A yA (s.1 66 58) = vr_V th AR B yB (s.1 66 58) := hp
      rw [hEV th hS.1] at hp'
      rw [u58]
      refine vr_K_0 hS.1 (fun w hw => ?_) (fun w hw => Or.inl hw) hBk hp'
      obtain ⟨q, q1, q2⟩ := vr_gm.mp hw
      exact Or.inr ⟨q, by omega, by rw [hBc q (by omega)]; exact q2⟩
    refine w_bind_19 (PF := fun z t => s.1 66 61 ≤ x7 ∧ vr_PF (u.1 66 71) (u.1 66 58) u t g AR z x6 x5 B yB WB) (PA := fun z t => z = 1 ∧ vr_PU s t g AR 1 p (vr_E AR A yA B yB (s.1 66 58))) u1 (by omega) (by omega) ?_ ?_ ?_ ?_ ?_ ?_
    · intro hx y hy
      refine ⟨_, by omega, rfl, x5, x6, y, rfl, rfl, ⟨rf_BB_mark m0 hB2, fun q hq => (congrFun (sx_ua_ne (A := u.2.1) (p := 124) (p' := 105) (j := x7.toNat) (v := 0) (by decide)) _).trans (hBc q (by have e := ((rf_EX_mark (nb := u.1 66 71) (ib := u.1 66 58) (s := u) (n := x7.toNat) (v := 0)).1).aa hmw.1 hmw.2; omega))⟩, by omega, fun q hq => ?_, rfl⟩
      show sx_ua u.2.1 124 x7.toNat 0 124 q = 0
      rw [sx_ua_same]
      dsimp only
      by_cases cq : q = x7.toNat
      · rw [if_pos cq]
      · rw [if_neg cq]
        exact hz q (by omega)
    · intro hx mk hmk K' hK'
      rw [hmk]
      refine c_v_fits hsL pb (d + 1) (by omega) NB B yB .leaf WB pb b bb x6 x5 (u.1 66 58) (u.1 66 71) u g AR K' u1 hMu (Int.le_refl _) (by omega) (by omega) ?_ hVu tBu kBu (Nat.le_refl _) hmw hou ⟨c1, c2⟩ ?_ (by omega) (by omega) (fun z t ht => hK' z t ⟨by omega, ht⟩)
      · exact ⟨by omega, by omega, by omega, by omega, by omega, by omega⟩
      · intro q hq hcl
        exact absurd (hz q (by omega)) hcl
    · rintro z t ⟨_, f1, _⟩
      exact f1
    · rintro z t ⟨_, f1, f2, f3, f0, _⟩ hz0 a1 a2 ha1 ha2
      have hN0 := f0 hz0
      rw [eS] at hN0
      rw [hz0]
      refine hK 0 _ (vr_PU_0 ?_ (rf_FS_back (rf_FS_trans f3 u4) (by omega)) (vr_N_cg hPK hN0))
      exact cx_I_uf rfl rfl (cx_I_uf rfl rfl f2 (by omega) (by omega)) (by omega) (by omega)
    · rintro z t ⟨_, f1, f2, f3, f0, f4⟩ hz0 a1 a2 ha1 ha2 K' hK'
      obtain ⟨g', AR', k1, k2, k3, ⟨k4, k5, k6⟩, ⟨k7, k8⟩, k9, k10, k11, k12, k13, k14, k15, k16⟩ := f4 hz0
      obtain ⟨o1, o2, o3⟩ := rf_back_f (a := a1) (b := a2) (t := t)
      have hfsv : rf_FS s (sx_uf (sx_uf t.1 66 71 a1) 66 58 a2, t.2) := rf_FS_back (rf_FS_trans f3 u4) (by omega)
      have hcv : cx_I (sx_uf (sx_uf t.1 66 71 a1) 66 58 a2, t.2) := cx_I_uf rfl rfl (cx_I_uf rfl rfl f2 (by omega) (by omega)) (by omega) (by omega)
      have hEB : ∀ nb ib, rf_EX nb ib t (sx_uf (sx_uf t.1 66 71 a1) 66 58 a2, t.2) := fun nb ib => rf_EX_back
      generalize hv : ((sx_uf (sx_uf t.1 66 71 a1) 66 58 a2, t.2) : sx_S) = v at hfsv hcv hEB ⊢
      have v1 : v.1 = sx_uf (sx_uf t.1 66 71 a1) 66 58 a2 := by rw [← hv]
      have v2 : v.2.1 = t.2.1 := by rw [← hv]
      have o1' : ∀ q, q ≠ 71 → q ≠ 58 → v.1 66 q = t.1 66 q := fun q a b => by rw [v1]; exact o1 q a b
      have e71 : v.1 66 71 = u.1 66 71 := by rw [v1, o2]; exact ha1
      have e58 : v.1 66 58 = u.1 66 58 := by rw [v1, o3]; exact ha2
      have hNC : rf_NC t v := ⟨o1' 61 (by decide) (by decide), fun q _ => by rw [v2]⟩
      have hEu : rf_EX (u.1 66 71) (u.1 66 58) u v := rf_EX_trans (hEB _ _) k2 (Int.le_refl _) (Int.le_refl _)
      have kBv := rf_CL_up hEu (by omega) (by omega) k3 hMu.ub kBu
      have hMv : rf_MI (v.1 66 71) (v.1 66 58) v g' := by
        rw [e71, e58]
        exact rf_NC_MI (hEB _ _) hNC (Int.le_refl _) (Int.le_refl _) k1
      have hquv : rf_qu v = rf_qu t := rf_NC_qu (hEB 0 0) hNC
      have hphv : rf_ph v g' = rf_ph t g' := rf_NC_ph (hEB 0 0) hNC
      have eav := hEu.aa hmw.1 hmw.2
      have e61v := hEu.1.2.2.2.1
      have e56v := hEu.1.2.2.1
      have hfm : ∀ q : Nat, (q : Int) < rf_aa u x6 → v.2.1 105 (x5 + (q : Int)).toNat = u.2.1 105 (x5 + (q : Int)).toNat := fun q hq => (hEu.2 _).2.1 (by omega)
      have rv50 := hcv.fld 66 50 (by decide) rfl
      have pBv := rf_CL_b hcv kBv
      have hbyv := rf_by_hi kBv.1.2.2.2.1
      have k5' := k5
      obtain ⟨s1, s2, s3, s4, s5, s6⟩ := k5'
      have w50 := o1' 50 (by decide) (by decide)
      have w56 := o1' 56 (by decide) (by decide)
      have w61 := o1' 61 (by decide) (by decide)
      have w64 := o1' 64 (by decide) (by decide)
      have w70 := o1' 70 (by decide) (by decide)
      have h70t := k2.1.2.2.2.2.2
      have hb3v : v.2.1 100 b.toNat ≠ 3 := by
        obtain ⟨j, kk, uu, f, n, eB, e1, e2, e3, e4, e5, _⟩ := rf_CL_node kB
        have pb1 := rf_CL_node kBv
        obtain ⟨j', kk', uu', f', n', eB', e1', e2', e3', e4', e5', _⟩ := pb1
        rw [eB] at eB'
        cases eB'
        rw [e2', e4', ← e4, ← e2]
        exact hB3
      refine c_r_assign hsL (d + 1) (by omega) x6 x5 b bb v K' hcv (by omega) (by omega) pBv (by omega) (by omega) (fun zz t2 g1 g2 g3 g4 g5 g6 => hK' zz t2 ⟨by omega, ?_⟩)
      have hA : rf_AS v t2 x6 x5 b bb := ⟨g1, g2, g3, g4, g5, g6⟩
      obtain ⟨g3', j1, j2, j3, j4, j5, j6⟩ := vr_MI_bind hMv kBv hb3v (by omega) (by rw [v2]; exact k9) (by rw [eav]; omega) (fun q hq => by
        rw [eav] at hq
        obtain ⟨T, t1, t2'⟩ := c3 q hq
        rw [hfm q hq, e58]
        exact ⟨T, hEu.pt hmw.1 hmw.2 t1, (hEu.vb (Int.le_refl _) _ _).mpr t2'⟩) (fun p q hp hq e => by
        rw [eav] at hp hq
        rw [hfm p hp, hfm q hq] at e
        exact c4 p q hp hq e) (fun w hw => by
        rw [e58, rf_gv_up hEu hmw ⟨c1, c2⟩]
        refine k10 w ?_
        have eWd : rf_Wd v g'.2.2 = rf_Wd t g'.2.2 := by
          funext jj r w
          unfold rf_Wd rf_rv1
          rw [v2]
        rw [← eWd]
        exact hw) (fun w hw => by
        obtain ⟨w1, w2⟩ := k11 w hw
        exact ⟨w1, fun z => w2 ((rf_rc_NC hNC).mp z)⟩) hA
      have hE2 : rf_EX (s.1 66 71) (s.1 66 58) v t2 := rf_AS_EX hmw.1 (by rw [v2]; exact k9) hA
      have hVv : vr_G v g' AR' := vr_G_up (hEB 0 0) (rf_EG_refl _ _) hNC (fun _ _ => rfl) k14
      have tBv : vr_t v AR' B := (vr_t_up hEu k15).1 tBu
      obtain ⟨hgv, hGT⟩ := vr_gv_mk hcv hMv j2 hVv (by omega) (by rw [v2]; exact k9) hA j5 tBv
      have eSv : vr_S v g' AR' = vr_S t g' AR' := vr_S_NC (hEB _ _) hNC (o1' 50 (by decide) (by decide)) k1
      have hYs : vr_Y (vr_S s g AR) (vr_S t2 g3' AR') (vr_E AR A yA B yB (s.1 66 58)) := by
        have c5 := ((j1.1 x6 (by omega) (by have := g3 61 rfl; omega)).2.2.2 (by rw [g6.1]; decide)).2.2.1.2.2.2
        have ea2 : rf_aa t2 x6 = rf_aa s x6 := by
          have : rf_aa t2 x6 = rf_aa v x6 := by unfold rf_aa; rw [(g2.same 108 rfl).2]
          omega
        have hfm2 : ∀ q : Nat, (q : Int) < rf_aa s x6 → rf_fm t2 x6 q = rf_vo s yA a q := fun q hq => by
          unfold rf_fm
          rw [g6.2.1, (g2.same 105 rfl).2, hfm q (by omega)]
          exact hBc q (by omega)
        have r0 := vr_aa0 hI x6
        obtain ⟨bd1, bd2⟩ := vr_bind (d := rf_look yB) (L := s.1 66 58) (xs := (List.range (rf_aa s x6).toNat).map (rf_vo s yA a)) hgv r58.1 (by
          show _ = vr_ar v x6
          rw [vr_gl, vr_ar_at (by omega)]
          omega) (vr_gn (fun i j hi hj e => c4 i j (by omega) (by omega) (by rw [hBc i (by omega), hBc j (by omega)]; exact e))) (fun w hw => by
          obtain ⟨q, q1, q2⟩ := vr_gm.mp hw
          rw [q2]
          exact vr_vo_in kA hA3 hmm (by omega)) (fun w hw => by
          have := (vr_rng kBv tBv w hw).2
          omega) (fun w hw => by
          obtain ⟨q, q1, q2, q3⟩ := vr_e_nn hw
          rw [j6, hfm2 q (by omega)] at q3
          rw [q2, Int.toNat_natCast, vx_getD (vr_gr.mpr ⟨by omega, rfl⟩)]
          exact q3) (fun w i hi => by
          obtain ⟨q1, q2⟩ := vr_gr.mp hi
          exact vr_e_at c5 (by omega) (by rw [j6, hfm2 i (by omega)]; exact q2))
        have hz := k16 trivial
        rw [eS, ← eSv] at hz
        intro _
        refine ⟨vx_le_trans hz.1 (vx_gv_le hgv), fun th hT => ?_, fun th hS hp => ?_⟩
        · show vr_V th AR A yA (s.1 66 58) = vr_V th AR B yB (s.1 66 58)
          rw [hEV th hT.1, bd1 th hT]
          exact (vr_V_up u1 k15).1 tBu
        · obtain ⟨th', h1, h2⟩ := hz.2 th hS (hPK th hS hp)
          refine ⟨th', bd2 th' h1 ?_, h2⟩
          have hp' : vr_V th AR A yA (s.1 66 58) = vr_V th AR B yB (s.1 66 58) := hp
          have e1 : th' x6 = th x6 := h2 x6 m0.1 m0.2
          have e2 : vr_V th' AR' B yB (s.1 66 58) = vr_V th AR B yB (s.1 66 58) := ((vr_V_up u1 k15).1 tBu).trans ((vr_V_ag hI h2).1 tB)
          rw [e1, ← hEV th hS.1, hp', ← e2]
          rfl
      have x71 := g3 71 rfl
      have x58 := g3 58 rfl
      have x50 := g3 50 rfl
      have x56 := g3 56 rfl
      have x61 := g3 61 rfl
      have x64 := g3 64 rfl
      have hEsv : rf_EX (s.1 66 71) (s.1 66 58) s v := rf_EX_trans hEu u2 (by omega) (by omega)
      refine vr_PU_1 (AR := AR) g1 (rf_FS_trans (rf_FS_AS hA) hfsv) ?_ (rf_EX_trans hE2 hEsv (Int.le_refl _) (Int.le_refl _)) (rf_EG_trans hEsv j2 (rf_EG_trans u2 k3 (rf_EG_refl _ _))) (by omega) ⟨by omega, by omega, by omega, by omega, by omega, by omega⟩ (by omega) (by omega) (by omega) (by omega) hGT (fun j hj => k15 j (by omega)) hYs
      rw [show t2.1 66 71 = v.1 66 71 by omega, show t2.1 66 58 = v.1 66 58 by omega]
      exact j1
    · rintro z t ⟨rfl, ht⟩
      exact hK 1 t ht
