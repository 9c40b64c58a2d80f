/-! ===== the reference: fits, rows of ARGs ===== -/
/-- those with P are still there, with R of them -/
def vr_Q (S T : vx_S) (P R : (Int → rf_N) → Prop) : Prop := True → vx_le S T ∧ ∀ th, vx_So S th → P th → ∃ th', vx_So T th' ∧ vx_ag S.1 th th' ∧ R th'
theorem vr_Q_Z {S T : vx_S} {P R : (Int → rf_N) → Prop} (h : vr_Q S T P R) : vr_Z S T P := fun _ => ⟨(h trivial).1, fun th hS hp => by
  obtain ⟨th', h1, h2, _⟩ := (h trivial).2 th hS hp
  exact ⟨th', h1, h2⟩⟩
theorem vr_Q_N {S T : vx_S} {P R R' : (Int → rf_N) → Prop} (h : vr_Q S T P R) (hR : ∀ th, vx_So T th → R th → R' th) (hN : vr_N T R') : vr_N S P := fun th hS hp => by
  obtain ⟨th', h1, h2, h3⟩ := (h trivial).2 th hS hp
  exact hN th' h1 (hR th' h1 h3)
theorem vr_Q_Z2 {S T U : vx_S} {P R R1 R2 : (Int → rf_N) → Prop} (h : vr_Q S T P R) (hR : ∀ th, vx_So T th → R th → R1 th) (hZ : vr_Z T U R1) (h2 : ∀ th th', vx_So T th → R th → vx_So U th' → vx_ag T.1 th th' → R2 th') : vr_Q S U P R2 := fun _ => by
  obtain ⟨a1, a2⟩ := h trivial
  obtain ⟨b1, b2⟩ := hZ trivial
  refine ⟨vx_le_trans a1 b1, fun th hS hp => ?_⟩
  obtain ⟨th', c1, c2, c3⟩ := a2 th hS hp
  obtain ⟨th2, d1, d2⟩ := b2 th' c1 (hR th' c1 c3)
  exact ⟨th2, d1, vr_ag_tr a1.1.1 c2 d2, h2 th' th2 c1 c3 d1 d2⟩
/-- a row of ARGs under way -/
def vr_FL (nb mark : Int) (s u : sx_S) (g g1 : rf_Gh) (AR AR1 : Nat → List Int) (N : Int → rf_T → Prop) (y : rf_Y) (W : List Nat) (p : Nat) (b m row : Int) (f D f1 : rf_N) (x6 : Int) (P : (Int → rf_N) → Prop) : Prop := rf_FL nb mark s u g g1 N y W p b m row f D f1 x6 ∧ vr_G u g1 AR1 ∧ (∀ j : Nat, (j : Int) < s.1 66 50 → AR1 j = AR j) ∧ vr_r u AR1 f1 ∧ vr_Q (vr_S s g AR) (vr_S u g1 AR1) P (vr_Kr (rf_gv s m row mark) m AR1 f1 y (s.1 66 58))
theorem vr_FL_s {nb mark : Int} {s u t : sx_S} {g g1 : rf_Gh} {AR AR1 : Nat → List Int} {P : (Int → rf_N) → Prop} {N : Int → rf_T → Prop} {y : rf_Y} {W : List Nat} {p : Nat} {b m row x6 a a2 z : Int} {f D n : rf_N} {j : Nat} {kk : Int × Int} {uu : Unit} {ff : rf_N} (hI : cx_I s) (hm : 0 ≤ m ∧ m < s.1 66 61) (hrow : 0 ≤ row ∧ row + rf_aa s m ≤ s.1 66 56) (h : vr_FL nb mark s u g g1 AR AR1 N y W p b m row f D (.inner j kk uu ff n) x6 P) (hx : x6 ≠ -1) (hP : vr_PF nb mark u t g1 AR1 z m row (.inner j kk uu ff n) y W) (hz : z ≠ 0) (ha : a = u.1 66 71) (ha2 : a2 = u.1 66 58) : ∃ g2 AR2, vr_FL nb mark s (sx_uf (sx_uf t.1 66 71 a) 66 58 a2, t.2) g g2 AR AR2 N y W p b m row f (rf_snoc D (.inner j kk uu ff .leaf)) n (t.2.1 103 x6.toNat) P := by
  obtain ⟨⟨h1, ⟨h2, h3, h4, h5, h6⟩, ⟨h7, h8⟩, ⟨h9, h10, h11⟩, h12, ⟨w, h13⟩, h14, h15, h16, h17, h18⟩, hVu, hAu, hru, hQ⟩ := h
  obtain ⟨p1, p2, p3, p0, p4⟩ := hP
  obtain ⟨g2, AR2, k1, k2, k3, ⟨k4, k5, k6⟩, ⟨k7, k8⟩, k9, k10, k11, k12, k13, k14, k15, k16⟩ := p4 hz
  obtain ⟨o1, o2, o3⟩ := rf_back_f (a := a) (b := a2) (t := t)
  have r58 := hI.fld 66 58 (by decide) rfl
  have r71 := hI.fld 66 71 (by decide) rfl
  generalize hv : ((sx_uf (sx_uf t.1 66 71 a) 66 58 a2, t.2) : sx_S) = v
  have v1 : v.1 = sx_uf (sx_uf t.1 66 71 a) 66 58 a2 := by rw [← hv]
  have v2 : v.2 = t.2 := by rw [← hv]
  have v2' : v.2.1 = t.2.1 := by rw [v2]
  have o1' : ∀ q, q ≠ 71 → q ≠ 58 → v.1 66 q = t.1 66 q := fun q a b => by rw [v1]; exact o1 q a b
  have hNC : rf_NC t v := ⟨o1' 61 (by decide) (by decide), fun j _ => by rw [v2']⟩
  have hEB : ∀ nb ib, rf_EX nb ib t v := fun nb ib => by rw [← hv]; exact rf_EX_back
  have hEu : rf_EX (u.1 66 71) (u.1 66 58) u v := rf_EX_trans (hEB (u.1 66 71) (u.1 66 58)) k2 (Int.le_refl _) (Int.le_refl _)
  have e71 : v.1 66 71 = u.1 66 71 := by rw [v1, o2]; exact ha
  have e58 : v.1 66 58 = u.1 66 58 := by rw [v1, o3]; exact ha2
  have hGu : rf_EG u g1 g2 := k3
  have hGs : rf_EG s g g2 := rf_EG_trans h4 hGu h5
  have hcI : cx_I v := by
    rw [← hv]
    exact cx_I_uf rfl rfl (cx_I_uf rfl rfl p2 (by omega) (by omega)) (by omega) (by omega)
  obtain ⟨C, D2, q1, q2, n', q3, q4, j', kk', u', ff', q5⟩ := rf_CR_cons h13 hx
  cases q5
  have hqu : rf_qu v = rf_qu t := rf_NC_qu (hEB 0 0) hNC
  have e103 : t.2.1 103 x6.toNat = u.2.1 103 x6.toNat := ((k2.2 x6.toNat).1 (by omega)).2.2.2.1
  have hUt : ∀ r q, 0 ≤ r → r < t.1 66 61 → g2.2.2 r q → g2.2.2 r q ∧ (q : Int) < rf_aa t r := fun r q r0 r1 hq => ⟨hq, k1.ub r q r0 r1 hq⟩
  have eWd : rf_Wd v g2.2.2 = rf_Wd t g2.2.2 := by
    funext jj r w
    unfold rf_Wd rf_rv1
    rw [v2']
  have eSv : vr_S v g2 AR2 = vr_S t g2 AR2 := vr_S_NC (hEB nb mark) hNC (o1' 50 (by decide) (by decide)) k1
  have hgvu : ∀ w, rf_gv s m row mark w → rf_gv u m row mark w := fun w hw => (rf_gv_up h4 hm hrow).mpr hw
  have hu50 := h4.1.2.1
  have hu61 := h4.1.2.2.2.1
  have hQ2 : vr_Q (vr_S s g AR) (vr_S v g2 AR2) P (vr_Kr (rf_gv s m row mark) m AR2 n y (s.1 66 58)) := by
    rw [eSv]
    refine vr_Q_Z2 hQ (fun th hS hk => ?_) k16 (fun th th' hS hk _ hag => ?_)
    · rw [h8]
      exact vr_K_al hgvu (vr_Kr_c (fun m => (hS.1 m).1) hk).1
    · have hk2 := (vr_Kr_c (fun m => (hS.1 m).1) hk).2
      have hrn : vr_r u AR1 n := hru.2
      exact (vr_K_up h2 k15 (fun _ h => h)).2 hrn ((vr_K_ag h2 ⟨hm.1, by omega⟩ hag).2 hrn hk2)
  refine ⟨g2, AR2, ⟨?_, ⟨hcI, rf_NC_MI (hEB nb mark) hNC (Int.le_refl _) (Int.le_refl _) k1, rf_EX_trans hEu h4 (by omega) (by omega), hGs, ?_⟩, ⟨by omega, by omega⟩, ⟨by rw [rf_NC_ph (hEB 0 0) hNC]; exact k4, rf_RM_same k5 (o1' 50 (by decide) (by decide)) (o1' 56 (by decide) (by decide)) (o1' 61 (by decide) (by decide)) (o1' 64 (by decide) (by decide)) (o1' 70 (by decide) (by decide)) hqu, by omega⟩, by rw [v2']; exact k9, ⟨D2, by rw [e103]; exact rf_CR_up hEu (by omega) (by omega) hGu h3.ub q3⟩, rf_clo_NC hNC (by rw [v2']) k12, fun x q => h15 x (k13 x ((rf_rc_NC hNC).mp q)), fun vv hvv => ?_, fun x hx2 => ?_, rf_am_snoc ((rf_am_mono (fun _ _ _ z => rf_bn_up hEu z)).2 h18) ⟨(rf_am_mono (p := rf_bn u) (p' := rf_bn v) (n := .inner j kk uu ff n) (fun _ _ _ z => rf_bn_up hEu z)).1 ((rf_bn_gn q2.1.1).1 _ q2.1.2.1), trivial⟩⟩, vr_G_up (hEB 0 0) (rf_EG_refl _ _) hNC (fun _ _ => rfl) k14, fun j hj => (k15 j (by omega)).trans (hAu j hj), (vr_t_up hEu k15).2 hru.2, hQ2⟩
  · rw [h1, rf_snoc_assoc]
    rfl
  · rw [← hv]
    exact rf_FS_back (rf_FS_trans p3 h6) (by omega)
  · rcases rf_fo_snoc.mp hvv with q | q
    · exact h16 vv ((rf_Wd_up hEu (hGu.ub h3.ub)).2 h18 vv q)
    · rcases q with q | q
      · rw [eWd] at q
        exact (rf_gv_up h4 hm hrow).mp (k10 vv q)
      · exact q.elim
  · rcases (rf_oc_snoc _ _ _).mp hx2 with q | q
    · obtain ⟨w1, w2⟩ := h17 x q
      exact ⟨w1, fun z => w2 (k13 x ((rf_rc_NC hNC).mp z))⟩
    · rcases q with q | q
      · obtain ⟨w1, w2⟩ := k11 x q
        exact ⟨w1, fun z => w2 ((rf_rc_NC hNC).mp z)⟩
      · exact q.elim
theorem vr_ft_keep {nb mark : Int} {s w u t : sx_S} {g : rf_Gh} {AR : Nat → List Int} {N : Int → rf_T → Prop} {j : Nat} {kk : Int × Int} {uu : Unit} {f n : rf_N} {y : rf_Y} {x : rf_T} {W : List Nat} {p c : Nat} {i b m row x8 x9 bits : Int} {kf : Nat → Nat} (hI : cx_I s) (hM : rf_MI nb mark s g) (hph : rf_ph s g ≤ 1150) (hR : rf_RM 4 s) (hV : vr_G s g AR) (tA : vr_t s AR (.inner j kk uu f n)) (k : rf_CL s g N (.inner j kk uu f n) y x W p i b) (hm : 0 ≤ m ∧ m < s.1 66 61) (ho : s.2.1 111 m.toNat = 0) (hrow : 0 ≤ row ∧ row + rf_aa s m ≤ s.1 66 56) (hc : rf_clo s g W m) (k3 : kk.1 = 3) (hne : kk.2 ≠ m) (hs : s.2.1 111 kk.2.toNat = 0) (hO : rf_OW s w kk.2 x8 x9) (h9 : s.2.1 108 kk.2.toNat ≤ x9) (hb : ∀ q : Nat, (q : Int) < s.2.1 108 kk.2.toNat → rf_bt bits (q : Int) → rf_gv s m row mark (rf_look y (rf_rv1 s j q))) (hbc : ∀ q : Nat, (q : Int) < s.2.1 108 kk.2.toNat → rf_gv s m row mark (rf_look y (rf_rv1 s j q)) → rf_bt bits (q : Int)) (hW : rf_KW w u (fun q => w.2.1 105 (x8 + (q : Int)).toNat) (fun q => w.2.1 110 (w.2.1 109 kk.2.toNat + (q : Int)).toNat) kf c) (hkf : ∀ i, i < c → ((kf i : Nat) : Int) < w.2.1 108 kk.2.toNat ∧ rf_bt bits ((kf i : Nat) : Int)) (hki : ∀ i j, i < c → j < c → kf i = kf j → i = j) (hkc : ∀ j : Nat, (j : Int) < w.2.1 108 kk.2.toNat → rf_bt bits (j : Int) → ∃ i, i < c ∧ kf i = j) (hn : (c : Int) < w.2.1 108 kk.2.toNat) (hA : rf_AS u t kk.2 x8 (w.1 66 50) (-1)) (hKC : rf_KC w t) : vr_PF nb mark s t g AR 1 m row (.inner j kk uu f n) y W := by
  obtain ⟨⟨o1, o2, o3⟩, o4, o5, o6, o7, o8⟩ := hO
  obtain ⟨j0, kk0, uu0, f0, n0, eA, e1, e2, e3, e4, e5, e6, e7, e8⟩ := rf_CL_node k
  cases eA
  have hHn : ∃ w, rf_Hn (s.1 66 58) s N j kk.1 kk.2 w := by
    rcases e8 with ⟨cc, _⟩ | ⟨cc, hx, w, hw, _⟩
    · omega
    · exact ⟨w, hw⟩
  obtain ⟨w0, hHn⟩ := hHn
  obtain ⟨_, hr, hbn, _⟩ := rf_Hn_3 hHn k3
  have r108 := hI.arr 108 (by decide) rfl kk.2.toNat
  have r56 := hI.fld 66 56 (by decide) rfl
  have r50 := hI.fld 66 50 (by decide) rfl
  obtain ⟨hE1, hF1⟩ := rf_EX_row (nb := s.1 66 71) (ib := s.1 66 58) o2 o3 o6 (by omega)
  have hE1n : rf_EX nb mark s w := (rf_EX_row (nb := nb) (ib := mark) o2 o3 o6 (by omega)).1
  have hN1 : rf_NC s w := rf_NC_F o2 rfl o3 rfl
  have w108 : w.2.1 108 = s.2.1 108 := (o2.same 108 rfl).2
  have w111 : w.2.1 111 = s.2.1 111 := (o2.same 111 rfl).2
  have f61 := o3 61 rfl
  have f70 := o3 70 rfl
  have f50 := o3 50 rfl
  have f64 := o3 64 rfl
  have f71 := o3 71 rfl
  have f58 := o3 58 rfl
  have hMw : rf_MI nb mark w g := rf_NC_MI hE1n hN1 (Int.le_refl _) (Int.le_refl _) hM
  have eaw : rf_aa w kk.2 = s.2.1 108 kk.2.toNat := by unfold rf_aa; rw [w108]
  have hqw : rf_qu w = rf_qu s := rf_NC_qu hE1n hN1
  have hv : ∀ q : Nat, (q : Int) < rf_aa w kk.2 → w.2.1 105 (x8 + (q : Int)).toNat = -2 - (q : Int) := fun q hq => by
    rw [o4]
    exact o8 q (by omega)
  obtain ⟨q1, q2, q3, q4, q5, q6⟩ := hR
  obtain ⟨hE2, g', k1, k2, k3', k4, k5, k6⟩ := rf_MI_keep (nb := nb) (ib := mark) o1 hMw (by omega) (by rw [w111]; exact hs) (by omega) (by rw [eaw]; omega) (fun q hq => Or.inr (hv q hq)) (fun p q hp hq e => by
    rw [hv p hp, hv q hq] at e
    omega) hW (fun i hi => (hkf i hi).1) hki hn hA
  have hEd := rf_keep_Ed (g := g) o1 hW hA (by omega) k1 k2
  have hvp : vr_p s AR j kk.2 := by
    rcases tA.2 with ⟨q, _⟩ | ⟨_, q⟩ | ⟨q, _⟩
    · omega
    · exact q
    · omega
  have hVw : vr_G w g AR := vr_G_up hE1n (rf_EG_refl _ _) hN1 (fun _ _ => rfl) hV
  obtain ⟨hnw, hG2⟩ := vr_keep (AR := AR) o1 hE2 hMw k1 k2 hVw (by omega) (by rw [w111]; exact hs) (by rw [eaw]; omega) (fun p q hp hq e => by
    rw [hv p hp, hv q hq] at e
    omega) hW (fun i hi => (hkf i hi).1) hki hA
  have eS : vr_S w g AR = vr_S s g AR := vr_S_NC hE1n hN1 f50 hM
  rw [eS] at hnw
  have eaS : (vr_S s g AR).2.2.1 kk.2 = s.2.1 108 kk.2.toNat := vr_ar_at hr
  have hZs : ∀ P : (Int → rf_N) → Prop, (∀ th, P th → vr_K (rf_gv s m row mark) m AR (.inner j kk uu f n) y (s.1 66 58) th) → vr_Z (vr_S s g AR) _ P := fun P hP _ => ⟨vx_nw_le hnw, fun th hS hp => vx_nw_So hnw (vr_W hI hV) hS (fun v hv hl => by
    rw [eaS] at hl
    have v0 := (hS.1 kk.2).2 v hv
    have ev : ((v.toNat : Nat) : Int) = v := Int.toNat_of_nonneg v0
    have h1 := vr_K_nw hS.1 k3 (hP th hp) (v := v.toNat) (z := rf_rv1 s j v.toNat) (by rw [ev]; exact hv) (by rw [hvp.2]; exact vr_gr.mpr ⟨by unfold rf_aa; omega, rfl⟩)
    obtain ⟨i', i1, i2⟩ := hkc v.toNat (by rw [w108]; omega) (hbc v.toNat (by omega) h1)
    exact vr_gm.mpr ⟨i', i1, by rw [i2, ev]⟩)⟩
  have hfs := rf_FS_KA hW hA
  have hE2' : rf_EX (s.1 66 71) (s.1 66 58) w t := rf_EX_trans (rf_AS_EX hr.1 (by rw [hW.2.2.1.2.2.2.2 111 _ (by omega) (by omega) (by omega), w111]; exact hs) hA) (rf_KW_EX hW) (Int.le_refl _) (Int.le_refl _)
  obtain ⟨⟨u1, u2, u3⟩, ⟨u50, u61, u56, u64⟩, ⟨_, _, _, _, d5⟩, _, ⟨fa, fb, fc⟩, _⟩ := hW
  obtain ⟨a1, a2, a3, a4, a5, _⟩ := hA
  have g61 := a3 61 rfl
  have g71 := a3 71 rfl
  have g58 := a3 58 rfl
  have h71 := u3 71 rfl
  have h58 := u3 58 rfl
  have hE : rf_EX (s.1 66 71) (s.1 66 58) s t := rf_EX_trans hE2' hE1 (Int.le_refl _) (Int.le_refl _)
  have hG : rf_EG s g g' := rf_EG_trans hE1 k2 (rf_EG_refl _ _)
  have h111 : ∀ a : Int, 0 ≤ a → a < s.1 66 61 → a ≠ kk.2 → t.2.1 111 a.toNat = s.2.1 111 a.toNat := fun a h0 h1 h2 => by
    rw [a5 111 _ (by omega) (by omega) (by omega), d5 111 _ (by omega) (by omega) (by omega), w111]
  -- the new unknown has no way on
  have hho : ∀ b, ¬ rf_Ed s g (w.1 66 61) b := fun b z => by
    have := z.1.2
    omega
  have hback : ∀ a, rf_rc (rf_Ed t g') a m → rf_rc (rf_Ed s g) a m := fun a z => rf_rc_keep (h := w.1 66 61) (fun a b z => (hEd a b z).imp (fun q => (rf_Ed_NC hN1).mp q) id) hho (by omega) (by omega) z
  have hnx : ¬ rf_rc (rf_Ed t g') kk.2 m := fun z => rf_rc_out (fun b q => q.2.1 hs) (hback _ z)
  refine ⟨by omega, a1, rf_FS_trans hfs hF1, fun q => absurd q (by decide), fun _ => ⟨g', _, k1, hE, hG, ⟨?_, rf_RM_le (k6 ⟨by omega, by omega, by omega, by omega, by omega, by omega⟩) (by omega), by omega⟩, ⟨by omega, by omega⟩, by rw [h111 m hm.1 hm.2 (fun z => hne z.symm)]; exact ho, fun v hv => ?_, fun z hz => ?_, fun q hq hcl => ?_, hback, hG2, fun j hj => vr_nA_lt j (by omega), hZs _ (fun _ h => h)⟩⟩
  · have := rf_NC_ph (g := g) hE1 hN1
    omega
  · rcases hv with ⟨_, q, w1, w2⟩ | ⟨cc, _⟩ | ⟨cc, _⟩
    · obtain ⟨ii, i1, i2⟩ := k5 q w1
      have h1 := hkf ii i1
      rw [← i2, w108] at h1
      rw [w2, hE.rv e3 hbn.1 (by unfold rf_aa at hbn; omega)]
      exact hb q h1.1 h1.2
    · omega
    · omega
  · rcases hz with ⟨_, rfl⟩ | ⟨cc, _⟩ | ⟨cc, _⟩
    · exact ⟨hne, hnx⟩
    · omega
    · omega
  · by_cases cq : (q : Int) < w.1 66 61
    · rw [hKC.1 124 q (by omega) (by omega) cq, (o2.same 124 rfl).2] at hcl
      exact (hc q (by omega) hcl).imp id (fun z y => z (hback _ y))
    · have : q = (w.1 66 61).toNat := by omega
      rw [this] at hcl
      exact absurd hKC.2 hcl
