section
/-! ===== the reference: fits, rows of ARGs ===== -/
/-- those with P are still there, with R of them -/
def vr_Q (S T : vx_S) (P R : (Int → rf_N) → Prop) : Prop := True → vx_le S T ∧ ∀ th, vx_So S th → P th → ∃ th', vx_So T th' ∧ vx_ag S.1 th th' ∧ R th'
theorem vr_Q_Z {S T : vx_S} {P R : (Int → rf_N) → Prop} (h : vr_Q S T P R) : vr_Z S T P := fun _ => ⟨(h trivial).1, fun th hS hp => by
  obtain ⟨th', h1, h2, _⟩ := (h trivial).2 th hS hp
  exact ⟨th', h1, h2⟩⟩
theorem vr_Q_N {S T : vx_S} {P R R' : (Int → rf_N) → Prop} (h : vr_Q S T P R) (hR : ∀ th, vx_So T th → R th → R' th) (hN : vr_N T R') : vr_N S P := fun th hS hp => by
  obtain ⟨th', h1, h2, h3⟩ := (h trivial).2 th hS hp
  exact hN th' h1 (hR th' h1 h3)
theorem vr_Q_Z2 {S T U : vx_S} {P R R1 R2 : (Int → rf_N) → Prop} (h : vr_Q S T P R) (hR : ∀ th, vx_So T th → R th → R1 th) (hZ : vr_Z T U R1) (h2 : ∀ th th', vx_So T th → R th → vx_So U th' → vx_ag T.1 th th' → R2 th') : vr_Q S U P R2 := fun _ => by
  obtain ⟨a1, a2⟩ := h trivial
  obtain ⟨b1, b2⟩ := hZ trivial
  refine ⟨vx_le_trans a1 b1, fun th hS hp => ?_⟩
  obtain ⟨th', c1, c2, c3⟩ := a2 th hS hp
  obtain ⟨th2, d1, d2⟩ := b2 th' c1 (hR th' c1 c3)
  exact ⟨th2, d1, vr_ag_tr a1.1.1 c2 d2, h2 th' th2 c1 c3 d1 d2⟩
/-- a row of ARGs under way -/
def vr_FL (nb mark : Int) (s u : sx_S) (g g1 : rf_Gh) (AR AR1 : Nat → List Int) (N : Int → rf_T → Prop) (y : rf_Y) (W : List Nat) (p : Nat) (b m row : Int) (f D f1 : rf_N) (x6 : Int) (P : (Int → rf_N) → Prop) : Prop := rf_FL nb mark s u g g1 N y W p b m row f D f1 x6 ∧ vr_G u g1 AR1 ∧ (∀ j : Nat, (j : Int) < s.1 66 50 → AR1 j = AR j) ∧ vr_r u AR1 f1 ∧ vr_Q (vr_S s g AR) (vr_S u g1 AR1) P (vr_Kr (rf_gv s m row mark) m AR1 f1 y (s.1 66 58))
theorem vr_FL_s {nb mark : Int} {s u t : sx_S} {g g1 : rf_Gh} {AR AR1 : Nat → List Int} {P : (Int → rf_N) → Prop} {N : Int → rf_T → Prop} {y : rf_Y} {W : List Nat} {p : Nat} {b m row x6 a a2 z : Int} {f D n : rf_N} {j : Nat} {kk : Int × Int} {uu : Unit} {ff : rf_N} (hI : cx_I s) (hm : 0 ≤ m ∧ m < s.1 66 61) (hrow : 0 ≤ row ∧ row + rf_aa s m ≤ s.1 66 56) (h : vr_FL nb mark s u g g1 AR AR1 N y W p b m row f D (.inner j kk uu ff n) x6 P) (hx : x6 ≠ -1) (hP : vr_PF nb mark u t g1 AR1 z m row (.inner j kk uu ff n) y W) (hz : z ≠ 0) (ha : a = u.1 66 71) (ha2 : a2 = u.1 66 58) : ∃ g2 AR2, vr_FL nb mark s (sx_uf (sx_uf t.1 66 71 a) 66 58 a2, t.2) g g2 AR AR2 N y W p b m row f (rf_snoc D (.inner j kk uu ff .leaf)) n (t.2.1 103 x6.toNat) P := by
  obtain ⟨⟨h1, ⟨h2, h3, h4, h5, h6⟩, ⟨h7, h8⟩, ⟨h9, h10, h11⟩, h12, ⟨w, h13⟩, h14, h15, h16, h17, h18⟩, hVu, hAu, hru, hQ⟩ := h
  obtain ⟨p1, p2, p3, p0, p4⟩ := hP
  obtain ⟨g2, AR2, k1, k2, k3, ⟨k4, k5, k6⟩, ⟨k7, k8⟩, k9, k10, k11, k12, k13, k14, k15, k16⟩ := p4 hz
  obtain ⟨o1, o2, o3⟩ := rf_back_f (a := a) (b := a2) (t := t)
  have r58 := hI.fld 66 58 (by decide) rfl
  have r71 := hI.fld 66 71 (by decide) rfl
  generalize hv : ((sx_uf (sx_uf t.1 66 71 a) 66 58 a2, t.2) : sx_S) = v
  have v1 : v.1 = sx_uf (sx_uf t.1 66 71 a) 66 58 a2 := by rw [← hv]
  have v2 : v.2 = t.2 := by rw [← hv]
  have v2' : v.2.1 = t.2.1 := by rw [v2]
  have o1' : ∀ q, q ≠ 71 → q ≠ 58 → v.1 66 q = t.1 66 q := fun q a b => by rw [v1]; exact o1 q a b
  have hNC : rf_NC t v := ⟨o1' 61 (by decide) (by decide), fun j _ => by rw [v2']⟩
  have hEB : ∀ nb ib, rf_EX nb ib t v := fun nb ib => by rw [← hv]; exact rf_EX_back
  have hEu : rf_EX (u.1 66 71) (u.1 66 58) u v := rf_EX_trans (hEB (u.1 66 71) (u.1 66 58)) k2 (Int.le_refl _) (Int.le_refl _)
  have e71 : v.1 66 71 = u.1 66 71 := by rw [v1, o2]; exact ha
  have e58 : v.1 66 58 = u.1 66 58 := by rw [v1, o3]; exact ha2
  have hGu : rf_EG u g1 g2 := k3
  have hGs : rf_EG s g g2 := rf_EG_trans h4 hGu h5
  have hcI : cx_I v := by
    rw [← hv]
    exact cx_I_uf rfl rfl (cx_I_uf rfl rfl p2 (by omega) (by omega)) (by omega) (by omega)
  obtain ⟨C, D2, q1, q2, n', q3, q4, j', kk', u', ff', q5⟩ := rf_CR_cons h13 hx
  cases q5
  have hqu : rf_qu v = rf_qu t := rf_NC_qu (hEB 0 0) hNC
  have e103 : t.2.1 103 x6.toNat = u.2.1 103 x6.toNat := ((k2.2 x6.toNat).1 (by omega)).2.2.2.1
  have hUt : ∀ r q, 0 ≤ r → r < t.1 66 61 → g2.2.2 r q → g2.2.2 r q ∧ (q : Int) < rf_aa t r := fun r q r0 r1 hq => ⟨hq, k1.ub r q r0 r1 hq⟩
  have eWd : rf_Wd v g2.2.2 = rf_Wd t g2.2.2 := by
    funext jj r w
    unfold rf_Wd rf_rv1
    rw [v2']
  have eSv : vr_S v g2 AR2 = vr_S t g2 AR2 := vr_S_NC (hEB nb mark) hNC (o1' 50 (by decide) (by decide)) k1
  have hgvu : ∀ w, rf_gv s m row mark w → rf_gv u m row mark w := fun w hw => (rf_gv_up h4 hm hrow).mpr hw
  have hu50 := h4.1.2.1
  have hu61 := h4.1.2.2.2.1
  have hQ2 : vr_Q (vr_S s g AR) (vr_S v g2 AR2) P (vr_Kr (rf_gv s m row mark) m AR2 n y (s.1 66 58)) := by
    rw [eSv]
    refine vr_Q_Z2 hQ (fun th hS hk => ?_) k16 (fun th th' hS hk _ hag => ?_)
    · rw [h8]
      exact vr_K_al hgvu (vr_Kr_c (fun m => (hS.1 m).1) hk).1
    · have hk2 := (vr_Kr_c (fun m => (hS.1 m).1) hk).2
      have hrn : vr_r u AR1 n := hru.2
      exact (vr_K_up h2 k15 (fun _ h => h)).2 hrn ((vr_K_ag h2 ⟨hm.1, by omega⟩ hag).2 hrn hk2)
  refine ⟨g2, AR2, ⟨?_, ⟨hcI, rf_NC_MI (hEB nb mark) hNC (Int.le_refl _) (Int.le_refl _) k1, rf_EX_trans hEu h4 (by omega) (by omega), hGs, ?_⟩, ⟨by omega, by omega⟩, ⟨by rw [rf_NC_ph (hEB 0 0) hNC]; exact k4, rf_RM_same k5 (o1' 50 (by decide) (by decide)) (o1' 56 (by decide) (by decide)) (o1' 61 (by decide) (by decide)) (o1' 64 (by decide) (by decide)) (o1' 70 (by decide) (by decide)) hqu, by omega⟩, by rw [v2']; exact k9, ⟨D2, by rw [e103]; exact rf_CR_up hEu (by omega) (by omega) hGu h3.ub q3⟩, rf_clo_NC hNC (by rw [v2']) k12, fun x q => h15 x (k13 x ((rf_rc_NC hNC).mp q)), fun vv hvv => ?_, fun x hx2 => ?_, rf_am_snoc ((rf_am_mono (fun _ _ _ z => rf_bn_up hEu z)).2 h18) ⟨(rf_am_mono (p := rf_bn u) (p' := rf_bn v) (n := .inner j kk uu ff n) (fun _ _ _ z => rf_bn_up hEu z)).1 ((rf_bn_gn q2.1.1).1 _ q2.1.2.1), trivial⟩⟩, vr_G_up (hEB 0 0) (rf_EG_refl _ _) hNC (fun _ _ => rfl) k14, fun j hj => (k15 j (by omega)).trans (hAu j hj), (vr_t_up hEu k15).2 hru.2, hQ2⟩
  · rw [h1, rf_snoc_assoc]
    rfl
  · rw [← hv]
    exact rf_FS_back (rf_FS_trans p3 h6) (by omega)
  · rcases rf_fo_snoc.mp hvv with q | q
    · exact h16 vv ((rf_Wd_up hEu (hGu.ub h3.ub)).2 h18 vv q)
    · rcases q with q | q
      · rw [eWd] at q
        exact (rf_gv_up h4 hm hrow).mp (k10 vv q)
      · exact q.elim
  · rcases (rf_oc_snoc _ _ _).mp hx2 with q | q
    · obtain ⟨w1, w2⟩ := h17 x q
      exact ⟨w1, fun z => w2 (k13 x ((rf_rc_NC hNC).mp z))⟩
    · rcases q with q | q
      · obtain ⟨w1, w2⟩ := k11 x q
        exact ⟨w1, fun z => w2 ((rf_rc_NC hNC).mp z)⟩
      · exact q.elim
theorem vr_ft_keep {nb mark : Int} {s w u t : sx_S} {g : rf_Gh} {AR : Nat → List Int} {N : Int → rf_T → Prop} {j : Nat} {kk : Int × Int} {uu : Unit} {f n : rf_N} {y : rf_Y} {x : rf_T} {W : List Nat} {p c : Nat} {i b m row x8 x9 bits : Int} {kf : Nat → Nat} (hI : cx_I s) (hM : rf_MI nb mark s g) (hph : rf_ph s g ≤ 1150) (hR : rf_RM 4 s) (hV : vr_G s g AR) (tA : vr_t s AR (.inner j kk uu f n)) (k : rf_CL s g N (.inner j kk uu f n) y x W p i b) (hm : 0 ≤ m ∧ m < s.1 66 61) (ho : s.2.1 111 m.toNat = 0) (hrow : 0 ≤ row ∧ row + rf_aa s m ≤ s.1 66 56) (hc : rf_clo s g W m) (k3 : kk.1 = 3) (hne : kk.2 ≠ m) (hs : s.2.1 111 kk.2.toNat = 0) (hO : rf_OW s w kk.2 x8 x9) (h9 : s.2.1 108 kk.2.toNat ≤ x9) (hb : ∀ q : Nat, (q : Int) < s.2.1 108 kk.2.toNat → rf_bt bits (q : Int) → rf_gv s m row mark (rf_look y (rf_rv1 s j q))) (hbc : ∀ q : Nat, (q : Int) < s.2.1 108 kk.2.toNat → rf_gv s m row mark (rf_look y (rf_rv1 s j q)) → rf_bt bits (q : Int)) (hW : rf_KW w u (fun q => w.2.1 105 (x8 + (q : Int)).toNat) (fun q => w.2.1 110 (w.2.1 109 kk.2.toNat + (q : Int)).toNat) kf c) (hkf : ∀ i, i < c → ((kf i : Nat) : Int) < w.2.1 108 kk.2.toNat ∧ rf_bt bits ((kf i : Nat) : Int)) (hki : ∀ i j, i < c → j < c → kf i = kf j → i = j) (hkc : ∀ j : Nat, (j : Int) < w.2.1 108 kk.2.toNat → rf_bt bits (j : Int) → ∃ i, i < c ∧ kf i = j) (hn : (c : Int) < w.2.1 108 kk.2.toNat) (hA : rf_AS u t kk.2 x8 (w.1 66 50) (-1)) (hKC : rf_KC w t) : vr_PF nb mark s t g AR 1 m row (.inner j kk uu f n) y W := by
  obtain ⟨⟨o1, o2, o3⟩, o4, o5, o6, o7, o8⟩ := hO
  obtain ⟨j0, kk0, uu0, f0, n0, eA, e1, e2, e3, e4, e5, e6, e7, e8⟩ := rf_CL_node k
  cases eA
  have hHn : ∃ w, rf_Hn (s.1 66 58) s N j kk.1 kk.2 w := by
    rcases e8 with ⟨cc, _⟩ | ⟨cc, hx, w, hw, _⟩
    · omega
    · exact ⟨w, hw⟩
  obtain ⟨w0, hHn⟩ := hHn
  obtain ⟨_, hr, hbn, _⟩ := rf_Hn_3 hHn k3
  have r108 := hI.arr 108 (by decide) rfl kk.2.toNat
  have r56 := hI.fld 66 56 (by decide) rfl
  have r50 := hI.fld 66 50 (by decide) rfl
  obtain ⟨hE1, hF1⟩ := rf_EX_row (nb := s.1 66 71) (ib := s.1 66 58) o2 o3 o6 (by omega)
  have hE1n : rf_EX nb mark s w := (rf_EX_row (nb := nb) (ib := mark) o2 o3 o6 (by omega)).1
  have hN1 : rf_NC s w := rf_NC_F o2 rfl o3 rfl
  have w108 : w.2.1 108 = s.2.1 108 := (o2.same 108 rfl).2
  have w111 : w.2.1 111 = s.2.1 111 := (o2.same 111 rfl).2
  have f61 := o3 61 rfl
  have f70 := o3 70 rfl
  have f50 := o3 50 rfl
  have f64 := o3 64 rfl
  have f71 := o3 71 rfl
  have f58 := o3 58 rfl
  have hMw : rf_MI nb mark w g := rf_NC_MI hE1n hN1 (Int.le_refl _) (Int.le_refl _) hM
  have eaw : rf_aa w kk.2 = s.2.1 108 kk.2.toNat := by unfold rf_aa; rw [w108]
  have hqw : rf_qu w = rf_qu s := rf_NC_qu hE1n hN1
  have hv : ∀ q : Nat, (q : Int) < rf_aa w kk.2 → w.2.1 105 (x8 + (q : Int)).toNat = -2 - (q : Int) := fun q hq => by
    rw [o4]
    exact o8 q (by omega)
  obtain ⟨q1, q2, q3, q4, q5, q6⟩ := hR
  obtain ⟨hE2, g', k1, k2, k3', k4, k5, k6⟩ := rf_MI_keep (nb := nb) (ib := mark) o1 hMw (by omega) (by rw [w111]; exact hs) (by omega) (by rw [eaw]; omega) (fun q hq => Or.inr (hv q hq)) (fun p q hp hq e => by
    rw [hv p hp, hv q hq] at e
    omega) hW (fun i hi => (hkf i hi).1) hki hn hA
  have hEd := rf_keep_Ed (g := g) o1 hW hA (by omega) k1 k2
  have hvp : vr_p s AR j kk.2 := by
    rcases tA.2 with ⟨q, _⟩ | ⟨_, q⟩ | ⟨q, _⟩
    · omega
    · exact q
    · omega
  have hVw : vr_G w g AR := vr_G_up hE1n (rf_EG_refl _ _) hN1 (fun _ _ => rfl) hV
  obtain ⟨hnw, hG2⟩ := vr_keep (AR := AR) o1 hE2 hMw k1 k2 hVw (by omega) (by rw [w111]; exact hs) (by rw [eaw]; omega) (fun p q hp hq e => by
    rw [hv p hp, hv q hq] at e
    omega) hW (fun i hi => (hkf i hi).1) hki hA
  have eS : vr_S w g AR = vr_S s g AR := vr_S_NC hE1n hN1 f50 hM
  rw [eS] at hnw
  have eaS : (vr_S s g AR).2.2.1 kk.2 = s.2.1 108 kk.2.toNat := vr_ar_at hr
  have hZs : ∀ P : (Int → rf_N) → Prop, (∀ th, P th → vr_K (rf_gv s m row mark) m AR (.inner j kk uu f n) y (s.1 66 58) th) → vr_Z (vr_S s g AR) _ P := fun P hP _ => ⟨vx_nw_le hnw, fun th hS hp => vx_nw_So hnw (vr_W hI hV) hS (fun v hv hl => by
    rw [eaS] at hl
    have v0 := (hS.1 kk.2).2 v hv
    have ev : ((v.toNat : Nat) : Int) = v := Int.toNat_of_nonneg v0
    have h1 := vr_K_nw hS.1 k3 (hP th hp) (v := v.toNat) (z := rf_rv1 s j v.toNat) (by rw [ev]; exact hv) (by rw [hvp.2]; exact vr_gr.mpr ⟨by unfold rf_aa; omega, rfl⟩)
    obtain ⟨i', i1, i2⟩ := hkc v.toNat (by rw [w108]; omega) (hbc v.toNat (by omega) h1)
    exact vr_gm.mpr ⟨i', i1, by rw [i2, ev]⟩)⟩
  have hfs := rf_FS_KA hW hA
  have hE2' : rf_EX (s.1 66 71) (s.1 66 58) w t := rf_EX_trans (rf_AS_EX hr.1 (by rw [hW.2.2.1.2.2.2.2 111 _ (by omega) (by omega) (by omega), w111]; exact hs) hA) (rf_KW_EX hW) (Int.le_refl _) (Int.le_refl _)
  obtain ⟨⟨u1, u2, u3⟩, ⟨u50, u61, u56, u64⟩, ⟨_, _, _, _, d5⟩, _, ⟨fa, fb, fc⟩, _⟩ := hW
  obtain ⟨a1, a2, a3, a4, a5, _⟩ := hA
  have g61 := a3 61 rfl
  have g71 := a3 71 rfl
  have g58 := a3 58 rfl
  have h71 := u3 71 rfl
  have h58 := u3 58 rfl
  have hE : rf_EX (s.1 66 71) (s.1 66 58) s t := rf_EX_trans hE2' hE1 (Int.le_refl _) (Int.le_refl _)
  have hG : rf_EG s g g' := rf_EG_trans hE1 k2 (rf_EG_refl _ _)
  have h111 : ∀ a : Int, 0 ≤ a → a < s.1 66 61 → a ≠ kk.2 → t.2.1 111 a.toNat = s.2.1 111 a.toNat := fun a h0 h1 h2 => by
    rw [a5 111 _ (by omega) (by omega) (by omega), d5 111 _ (by omega) (by omega) (by omega), w111]
  -- the new unknown has no way on
  have hho : ∀ b, ¬ rf_Ed s g (w.1 66 61) b := fun b z => by
    have := z.1.2
    omega
  have hback : ∀ a, rf_rc (rf_Ed t g') a m → rf_rc (rf_Ed s g) a m := fun a z => rf_rc_keep (h := w.1 66 61) (fun a b z => (hEd a b z).imp (fun q => (rf_Ed_NC hN1).mp q) id) hho (by omega) (by omega) z
  have hnx : ¬ rf_rc (rf_Ed t g') kk.2 m := fun z => rf_rc_out (fun b q => q.2.1 hs) (hback _ z)
  refine ⟨by omega, a1, rf_FS_trans hfs hF1, fun q => absurd q (by decide), fun _ => ⟨g', _, k1, hE, hG, ⟨?_, rf_RM_le (k6 ⟨by omega, by omega, by omega, by omega, by omega, by omega⟩) (by omega), by omega⟩, ⟨by omega, by omega⟩, by rw [h111 m hm.1 hm.2 (fun z => hne z.symm)]; exact ho, fun v hv => ?_, fun z hz => ?_, fun q hq hcl => ?_, hback, hG2, fun j hj => vr_nA_lt j (by omega), hZs _ (fun _ h => h)⟩⟩
  · have := rf_NC_ph (g := g) hE1 hN1
    omega
  · rcases hv with ⟨_, q, w1, w2⟩ | ⟨cc, _⟩ | ⟨cc, _⟩
    · obtain ⟨ii, i1, i2⟩ := k5 q w1
      have h1 := hkf ii i1
      rw [← i2, w108] at h1
      rw [w2, hE.rv e3 hbn.1 (by unfold rf_aa at hbn; omega)]
      exact hb q h1.1 h1.2
    · omega
    · omega
  · rcases hz with ⟨_, rfl⟩ | ⟨cc, _⟩ | ⟨cc, _⟩
    · exact ⟨hne, hnx⟩
    · omega
    · omega
  · by_cases cq : (q : Int) < w.1 66 61
    · rw [hKC.1 124 q (by omega) (by omega) cq, (o2.same 124 rfl).2] at hcl
      exact (hc q (by omega) hcl).imp id (fun z y => z (hback _ y))
    · have : q = (w.1 66 61).toNat := by omega
      rw [this] at hcl
      exact absurd hKC.2 hcl
end
section
/-! ===== the reference: fits, its contract ===== -/
theorem vr_ft_ok {sL : Nat} {sx : Nat → Int32} (hsL : sL ≤ 3072) {P d : Nat} (hd : P + 129 ≤ d) (ih : vr_FT sL sx P (d + 1)) : vr_FT sL sx (P + 1) (d + 2) := by
  intro N A y x W p i b m row mark nb s g AR K hI hM hnb hmk hph hR hV tA k hp hm ho hrow hc h71 h58 hK
  have pA := rf_CL_b hI k
  obtain ⟨j, kk, uu, f, n, eA, e1, e2, e3, e4, e5, e6, e7, e8⟩ := rf_CL_node k
  subst eA
  have hpp := rf_wy_pos k.2.2.2 hph
  have hw1 := rf_wh_pos (j := j) (k := kk) (u := uu) (f := f) (x := n)
  have kN := k.1.2.2.2
  have r58 := hI.fld 66 58 (by decide) rfl
  have r71 := hI.fld 66 71 (by decide) rfl
  have r61 := hI.fld 66 61 (by decide) rfl
  have r56 := hI.fld 66 56 (by decide) rfl
  have hR2 := hR
  obtain ⟨q1, q2, q3, q4, q5, q6⟩ := hR
  have dY : rf_dp y ≤ 100 := by have := kN.2.2.2; omega
  have hby := rf_by_hi kN.1
  have eK : s.2.1 100 i.toNat = kk.1 := by rw [e2]; exact e4
  have eR : s.2.1 101 i.toNat = kk.2 := by rw [e2]; exact e5
  have hk3 : kk.1 = 3 → (0 ≤ kk.2 ∧ kk.2 < s.1 66 61) ∧ (0 ≤ s.2.1 104 j ∧ s.2.1 104 j + rf_aa s kk.2 ≤ s.1 66 56) := fun q => by
    rcases e8 with ⟨c, _⟩ | ⟨c, hx, w, hw, _⟩
    · omega
    · exact ⟨(rf_Hn_3 hw q).2.1, (rf_Hn_3 hw q).2.2.1⟩
  have hkk : kk.1 = 0 ∨ kk.1 = 1 ∨ kk.1 = 2 ∨ kk.1 = 3 := by
    rcases e8 with ⟨c, _⟩ | ⟨c, hx, w, hw, _⟩
    · exact Or.inl c
    · exact rf_Hn_k hw
  have r108 := fun q => hI.arr 108 (by decide) rfl q
  have raa : rf_aa s m = s.2.1 108 m.toNat := rfl
  have r108m := r108 m.toNat
  refine sx_methL (wr := true) (n := 400) (n' := 400) (stop := [(9, [0, 1, 2, 3, 4, 5]), (55, [0, 1, 2, 3, 4, 5]), (65, [0, 1, 2, 3, 4, 5]), (91, [0, 1, 2, 3, 4, 5, 6]), (113, [0, 1, 2, 3, 4, 5, 6]), (150, [0, 1, 2, 3, 4, 5, 6, 7, 8]), (249, [0, 6, 7, 8, 9]), (294, [0, 1, 2, 3, 4, 5]), (338, [0, 1, 2, 3, 4, 5]), (346, [0, 2, 3, 4, 5, 6])]) (fun ms pc ls u => (pc = 9 ∧ ls = [(0, .inr (.inl 66)), (1, .inl i), (2, .inl b), (3, .inl m), (4, .inl row), (5, .inl mark)] ∧ s = u ∧ kk.1 = 0 ∧ ms = 0) ∨ (pc = 55 ∧ ls = [(0, .inr (.inl 66)), (1, .inl i), (2, .inl b), (3, .inl m), (4, .inl row), (5, .inl mark)] ∧ s = u ∧ kk.1 ≠ 0 ∧ ms = rf_len f + 2000) ∨ (pc = 65 ∧ ls = [(0, .inr (.inl 66)), (1, .inl i), (2, .inl b), (3, .inl m), (4, .inl row), (5, .inl mark)] ∧ s = u ∧ kk.1 = 3 ∧ ms = 1900) ∨ (pc = 91 ∧ ∃ x6 : Int, ls = [(0, .inr (.inl 66)), (1, .inl i), (2, .inl b), (3, .inl m), (4, .inl row), (5, .inl mark), (6, .inl x6)] ∧ s = u ∧ kk.1 = 3 ∧ kk.2 = x6 ∧ x6 ≠ m ∧ s.2.1 111 x6.toNat ≠ 0 ∧ ms = 1800) ∨ (pc = 113 ∧ ∃ x6 : Int, ls = [(0, .inr (.inl 66)), (1, .inl i), (2, .inl b), (3, .inl m), (4, .inl row), (5, .inl mark), (6, .inl x6)] ∧ s = u ∧ kk.1 = 3 ∧ kk.2 = x6 ∧ x6 ≠ m ∧ s.2.1 111 x6.toNat ≠ 0 ∧ ms = 0) ∨ (pc = 150 ∧ ∃ x6 x7 x8 : Int, ls = [(0, .inr (.inl 66)), (1, .inl i), (2, .inl b), (3, .inl m), (4, .inl row), (5, .inl mark), (6, .inl x6), (7, .inl x7), (8, .inl x8)] ∧ s = u ∧ kk.1 = 3 ∧ kk.2 = x6 ∧ x6 ≠ m ∧ s.2.1 111 x6.toNat = 0 ∧ vr_bg x7 x8 (fun q => rf_gv s m row mark (rf_look y (rf_rv1 s j q))) ∧ (0 ≤ x8 ∧ x8 ≤ s.2.1 108 x6.toNat) ∧ ms = 1700 + (4 - x8).toNat) ∨ (pc = 249 ∧ ∃ x6 x7 x8 x9 : Int, ls = [(0, .inr (.inl 66)), (6, .inl x6), (7, .inl x7), (8, .inl x8), (9, .inl x9)] ∧ kk.1 = 3 ∧ kk.2 = x6 ∧ x6 ≠ m ∧ s.2.1 111 x6.toNat = 0 ∧ vr_bg x7 (s.2.1 108 x6.toNat) (fun q => rf_gv s m row mark (rf_look y (rf_rv1 s j q))) ∧ (∃ jj : Nat, (jj : Int) < s.2.1 108 x6.toNat ∧ ¬ rf_bt x7 (jj : Int)) ∧ rf_OW s u x6 x8 x9 ∧ ms = 1600 + (4 - x9).toNat) ∨ (pc = 294 ∧ ls = [(0, .inr (.inl 66)), (1, .inl i), (2, .inl b), (3, .inl m), (4, .inl row), (5, .inl mark)] ∧ s = u ∧ (kk.1 = 1 ∨ kk.1 = 2) ∧ ms = rf_len f + 2) ∨ (pc = 338 ∧ ls = [(0, .inr (.inl 66)), (1, .inl i), (2, .inl b), (3, .inl m), (4, .inl row), (5, .inl mark)] ∧ s = u ∧ (kk.1 = 1 ∨ kk.1 = 2) ∧ (kk.1 = 2 → rf_gv s m row mark (rf_look y kk.2)) ∧ ms = rf_len f + 1) ∨ (pc = 346 ∧ ∃ (x6 : Int) (g1 : rf_Gh) (AR1 : Nat → List Int) (D f1 : rf_N), ls = [(0, .inr (.inl 66)), (2, .inl b), (3, .inl m), (4, .inl row), (5, .inl mark), (6, .inl x6)] ∧ (kk.1 = 1 ∨ kk.1 = 2) ∧ (kk.1 = 2 → rf_gv s m row mark (rf_look y kk.2)) ∧ vr_FL nb mark s u g g1 AR AR1 N y W p b m row f D f1 x6 (vr_K (rf_gv s m row mark) m AR (.inner j kk uu f n) y (s.1 66 58)) ∧ ms = rf_len f1)) hsL (e := eX12_fits) rfl ?_ ?_
  · refine w_fits hI pA (fun q => ⟨_, Or.inl (⟨rfl, rfl, rfl, by omega, rfl⟩)⟩) (fun q => ⟨_, Or.inr (Or.inl (⟨rfl, rfl, rfl, by omega, rfl⟩))⟩)
  · rintro ms pc ls u (⟨rfl, rfl, rfl, k0, rfl⟩ | ⟨rfl, rfl, rfl, k0, rfl⟩ | ⟨rfl, rfl, rfl, k0, rfl⟩ | ⟨rfl, x6, rfl, rfl, k3, hx6, hne, hs, rfl⟩ | ⟨rfl, x6, rfl, rfl, k3, hx6, hne, hs, rfl⟩ | ⟨rfl, x6, x7, x8, rfl, rfl, k3, hx6, hne, hs, hbg, h8, rfl⟩ | ⟨rfl, x6, x7, x8, x9, rfl, k3, hx6, hne, hs, hbg, hnb2, hO, rfl⟩ | ⟨rfl, rfl, rfl, k0, rfl⟩ | ⟨rfl, rfl, rfl, k0, hk2, rfl⟩ | ⟨rfl, x6, g1, AR1, D, f1, rfl, k0, hk2, hL, rfl⟩)
    · -- 9: LAM
      have hv : rf_vb (s.1 66 58) s kk.2 (match x with | .leaf => .leaf | .inner _ _ _ C _ => C) := by
        rcases e8 with ⟨_, C, D, hx, hv, _⟩ | ⟨c, _⟩
        · subst hx
          exact hv
        · exact absurd k0 c
      have hv0 := hv.1
      refine w_fits_9 (PV := fun z t => cx_I t ∧ cx_F [(66, 66), (106, 106)] s t ∧ z = s.1 66 58 ∧ t.1 66 58 = s.1 66 58 + 1 ∧ rf_f [58] s t ∧ rf_ag 106 106 (s.1 66 58) s t ∧ t.2.1 106 z.toNat = s.2.1 106 kk.2.toNat) (PN := fun z t z2 t2 => cx_I t2 ∧ cx_F [(66, 66), (115, 117)] t t2 ∧ z2 = t.1 66 71 ∧ t2.1 66 71 = t.1 66 71 + 1 ∧ rf_f [71] t t2 ∧ rf_ag 115 117 (t.1 66 71) t t2 ∧ rf_nm t2 z2 kk.2 z b) (PF := fun z t => vr_PF nb mark s t g AR z m row (.inner j kk uu f n) y W) hI pA (by rw [eR]; omega) ?_ ?_ ?_ ?_ ?_ ?_
      · intro u hu K' hK'
        have hr := hI.arr 106 (by decide) rfl kk.2.toNat
        rw [eR] at hu
        exact c_r_newVar hsL (d + 1) (by omega) u s K' hI (by omega) (by omega) (fun z t c1 c2 c3 c4 c5 c6 c7 => hK' z t ⟨c1, c2, c3, c4, c5, c6, by rw [c7]; exact hu⟩)
      · rintro z t ⟨c1, _⟩
        exact c1
      · rintro z t ⟨c1, c2, c3, c4, c5, c6, c7⟩ u hu K' hK'
        have c71 := c5 71 rfl
        have hu2 : u = kk.2 := by rw [hu, (c2.same 101 rfl).2]; exact eR
        rw [hu2]
        exact c_r_name hsL (d + 1) (by omega) kk.2 z b t K' c1 (by omega) (by omega) (by omega) (by omega) (fun z2 t2 f1 f2 f3 f4 f5 f6 f7 => hK' z2 t2 ⟨f1, f2, f3, f4, f5, f6, f7⟩)
      · rintro z t z2 t2 ⟨c1, c2, c3, c4, c5, c6, c7⟩ ⟨f1, f2, f3, f4, f5, f6, f7⟩ u hu K' hK'
        have hu2 : u = s.2.1 102 j := by rw [hu, (c2.same 102 rfl).2, e2]
        rw [hu2]
        exact vr_ft_lam ih hI hM hnb hmk hph hR2 hV tA k (by omega) hm ho hrow hc h71 h58 k0 f1 c2 c3 c4 c5 c6 c7 f2 f3 f4 f5 f6 f7 hK'
      · rintro z t ⟨c1, _⟩
        exact c1
      · intro z t ht
        exact hK z t ht
    · -- 55
      refine w_fits_55 hI pA (fun q => ⟨_, by omega, Or.inr (Or.inr (Or.inl (⟨rfl, rfl, rfl, by omega, rfl⟩)))⟩) (fun q => ⟨_, by omega, Or.inr (Or.inr (Or.inr (Or.inr (Or.inr (Or.inr (Or.inr (Or.inl (⟨rfl, rfl, rfl, by omega, rfl⟩))))))))⟩)
    · -- 65
      have hr := (hk3 k0).1
      refine w_fits_65 hI pA (by omega) (by rw [eR]; omega) (fun q => hK 0 s (vr_PF_0 hI (rf_FS_refl s) (fun th hS => vr_K_self (fun m => (hS.1 m).1) k0 (by rw [← eR]; exact q)))) (fun h1 h2 x6 hx => ⟨_, by omega, Or.inr (Or.inr (Or.inr (Or.inl (⟨rfl, x6, rfl, rfl, k0, by rw [hx, eR], by rw [hx]; exact h1, by rw [hx]; exact h2, rfl⟩))))⟩) (fun h1 h2 x6 hx => ⟨_, by have := r108 x6.toNat; omega, Or.inr (Or.inr (Or.inr (Or.inr (Or.inr (Or.inl (⟨rfl, x6, 0, 0, rfl, rfl, k0, by rw [hx, eR], by rw [hx]; exact h1, by rw [hx]; exact h2, vr_bg_0 _, by have := r108 x6.toNat; omega, rfl⟩))))))⟩)
    · -- 91
      have hr := (hk3 k3).1
      have hpr := e8
      refine w_fits_91 hI (by omega) (fun h1 h2 => hK 1 s (vr_PF_same hI hM hph hR2 hV ho (fun v hv => ?_) (fun z hz => ?_) hc)) ⟨_, by omega, Or.inr (Or.inr (Or.inr (Or.inr (Or.inl (⟨rfl, x6, rfl, rfl, k3, hx6, hne, hs, rfl⟩)))))⟩
      · rcases hv with ⟨_, q, w1, w2⟩ | ⟨c, _⟩ | ⟨c, _⟩
        · have := hM.ub kk.2 q hr.1 hr.2 w1
          rw [hx6] at this
          unfold rf_aa at this
          omega
        · omega
        · omega
      · rcases hz with ⟨_, rfl⟩ | ⟨c, _⟩ | ⟨c, _⟩
        · refine ⟨by rw [hx6]; exact hne, ?_⟩
          rcases hc kk.2.toNat (by omega) (by rw [hx6]; exact h2) with w | w
          · have h3 := (k.2.2.2.2.1 _ w).2.2 kk.2 (Or.inl ⟨k3, rfl⟩)
            rw [Int.toNat_of_nonneg hr.1] at h3
            exact absurd h3 (hM.2 _)
          · rw [Int.toNat_of_nonneg hr.1] at w
            exact w
        · omega
        · omega
    · -- 113
      subst hx6
      have hr := (hk3 k3).1
      have hbn := (hk3 k3).2
      have hSV := (hM.1 kk.2 hr.1 hr.2).2.2.2 hs
      obtain ⟨_, ⟨sb1, _⟩, ⟨⟨sc1, sc2⟩, sc3, _⟩, _⟩ := hSV
      have raa2 : rf_aa s kk.2 = s.2.1 108 kk.2.toNat := rfl
      have rx := r108 kk.2.toNat
      have hI2 : cx_I (s.1, sx_ua s.2.1 124 kk.2.toNat 1, s.2.2) := cx_I_ua rfl rfl hI (by decide) (by decide)
      have o : ∀ q, q ≠ 124 → sx_ua s.2.1 124 kk.2.toNat 1 q = s.2.1 q := fun q hq => sx_ua_ne hq
      refine w_fits_113 (PE := fun z2 t => cx_I t ∧ cx_F [(66, 66), (115, 117)] (s.1, sx_ua s.2.1 124 kk.2.toNat 1, s.2.2) t ∧ rf_f [71] s t ∧ rf_ag 115 117 (s.1 66 71) s t ∧ (s.1 66 71 ≤ t.1 66 71 ∧ t.1 66 71 ≤ s.1 66 71 + s.2.1 108 kk.2.toNat + 1) ∧ rf_bs t (rf_bh (g.2.1 kk.2) (rf_row (rf_fm s kk.2) (rf_vo s y i) (rf_aa s kk.2).toNat)) z2) (PF := fun z t => vr_PF nb mark s t g AR z m row (.inner j kk uu f n) y W) hI pA (by omega) ?_ ?_ ?_ ?_
      · intro K' hK'
        have y1 : rf_bs (s.1, sx_ua s.2.1 124 kk.2.toNat 1, s.2.2) y b := by
          unfold rf_bs
          dsimp only
          rw [o 115 (by decide), o 116 (by decide), o 117 (by decide)]
          exact kN.1
        have y2 : rf_bs (s.1, sx_ua s.2.1 124 kk.2.toNat 1, s.2.2) (g.2.1 kk.2) (((s.1, sx_ua s.2.1 124 kk.2.toNat 1, s.2.2) : sx_S).2.1 114 kk.2.toNat) := by
          unfold rf_bs
          dsimp only
          rw [o 115 (by decide), o 116 (by decide), o 117 (by decide), o 114 (by decide)]
          exact rf_by_mono (fun _ _ => ⟨rfl, rfl, rfl⟩) hnb sb1
        refine c_r_enter hsL 100 (d + 1) (by omega) y (g.2.1 kk.2) i b kk.2 _ K' hI2 pA (by dsimp only; rw [o 101 (by decide)]; exact eR.symm) (by omega) (by dsimp only; omega) (fun q hq => ?_) dY y1 y2 (fun z t c1 c2 c3 c4 c5 c6 => hK' z t ⟨c1, c2, c3, ?_, ?_, ?_⟩)
        · dsimp only at hq ⊢
          rw [o 108 (by decide)] at hq
          rw [o 112 (by decide), o 104 (by decide), o 105 (by decide)]
          refine ⟨by omega, by rw [e2]; omega, ?_⟩
          have := sc3 q (by omega)
          unfold rf_fm at this
          rcases this with ⟨T, _, t2⟩ | z
          · have := t2.1.1
            omega
          · omega
        · intro q jj h1 h2 h3
          rw [c4 q jj h1 h2 h3]
          dsimp only
          rw [o q (by omega)]
        · dsimp only at c5
          rw [o 108 (by decide)] at c5
          exact c5
        · exact c6
      · rintro z2 t ⟨c1, c2, c3, c4, c5, c6⟩ u hu K' hK'
        rw [o 113 (by decide)] at hu
        rw [hu]
        exact vr_ft_en ih hI hM hnb hmk hph hR2 hV tA k (by omega) hm ho hrow hc h71 h58 k3 hne hs c1 c2 c3 c4 c5 c6 hK'
      · rintro z t ⟨c1, _⟩
        exact c1
      · intro z t ht
        exact hK z t ht
    · -- 150
      subst hx6
      have hr := (hk3 k3).1
      have hbn := (hk3 k3).2
      have raa2 : rf_aa s kk.2 = s.2.1 108 kk.2.toNat := rfl
      have rx := r108 kk.2.toNat
      have hvo : rf_vo s y i x8.toNat = rf_look y (rf_rv1 s j x8.toNat) := by
        unfold rf_vo rf_rv1
        rw [e2]
      refine w_vfits_150 (w := rf_vo s y i x8.toNat) (PI := fun z => z ≠ 0 ↔ ∃ q : Nat, (q : Int) < s.2.1 108 m.toNat ∧ s.2.1 105 (row + (q : Int)).toNat = rf_vo s y i x8.toNat) hI (by omega) (by omega) hbg.1 (by omega) (rf_look_in hI kN.1 (hI.arr 105 (by decide) rfl _)) (by omega) ?_ ?_ ?_ ?_ ?_
      · intro hx K' hK'
        exact c_r_varOf hsL 100 (d + 1) (by omega) y i b x8 s K' hI pA (by omega) (by rw [e2]; omega) dY kN.1 hK'
      · intro hx hw K' hK'
        exact c_v_isIn hsL (d + 1) (by omega) _ m row s K' hI (rf_look_in hI kN.1 (hI.arr 105 (by decide) rfl _)) (by omega) (by omega) hK'
      · intro hx c v yy hcc hv hyy
        refine ⟨_, by omega, Or.inr (Or.inr (Or.inr (Or.inr (Or.inr (Or.inl (⟨rfl, kk.2, v, yy, rfl, rfl, k3, rfl, hne, hs, vr_bg_s (by omega) hbg (hcc.imp (fun z => ⟨z.1, ?_⟩) (fun z => ⟨z.1, ?_⟩)) hv hyy, by omega, rfl⟩))))))⟩
        · rw [← hvo]
          obtain ⟨_, zl, zz, z1, z2⟩ := z
          rintro (w | ⟨qq, w1, w2⟩)
          · omega
          · exact absurd z1 (z2.mpr ⟨qq, w1, w2.symm⟩)
        · rw [← hvo]
          rcases z.2 with w | ⟨zz, z1, z2⟩
          · exact Or.inl w
          · obtain ⟨qq, w1, w2⟩ := z2.mp z1
            exact Or.inr ⟨qq, w1, w2.symm⟩
      · intro hx hmk2
        have ex : x8 = s.2.1 108 kk.2.toNat := by omega
        have h1 := (rf_bg_m (a := s.2.1 108 kk.2.toNat) rx (by rw [← ex]; exact hbg.bg)).mp hmk2
        refine hK 1 s (vr_PF_same hI hM hph hR2 hV ho (fun v hv => ?_) (fun z hz => ?_) hc)
        · rcases hv with ⟨_, q, w1, w2⟩ | ⟨c, _⟩ | ⟨c, _⟩
          · have hq := hM.ub kk.2 q hr.1 hr.2 w1
            rw [w2]
            exact ((hbg.2 q (by omega)).mp (h1 q (by omega))).2
          · omega
          · omega
        · rcases hz with ⟨_, rfl⟩ | ⟨c, _⟩ | ⟨c, _⟩
          · exact ⟨hne, fun z => rf_rc_out (fun b q => q.2.1 hs) z⟩
          · omega
          · omega
      · intro hx hmk2 oo v hoo hv
        have ex : x8 = s.2.1 108 kk.2.toNat := by omega
        have h1 := rf_bg_m (a := s.2.1 108 kk.2.toNat) rx (by rw [← ex]; exact hbg.bg)
        have hex : ∃ jj : Nat, (jj : Int) < s.2.1 108 kk.2.toNat ∧ ¬ rf_bt x7 (jj : Int) := Classical.byContradiction (fun hcon => hmk2 (h1.mpr (fun q hq => Classical.byContradiction (fun hb => hcon ⟨q, hq, hb⟩))))
        have f56 : sx_uf s.1 66 56 v 66 56 = v := by
          rw [sx_uf_if]
          exact if_pos ⟨rfl, rfl⟩
        exact ⟨_, by omega, Or.inr (Or.inr (Or.inr (Or.inr (Or.inr (Or.inr (Or.inl (⟨rfl, kk.2, x7, oo, 0, rfl, k3, rfl, hne, hs, by rw [← ex]; exact hbg, hex, ⟨⟨cx_I_uf rfl rfl hI (by omega) (by omega), cx_F_uf rfl (cx_F_refl _ _), rf_f_uf rfl (rf_f_refl _ _)⟩, hoo, f56.trans hv, rf_ag_refl _ _ _ _, by omega, fun q hq => by omega⟩, rfl⟩)))))))⟩
    · -- 249
      subst hx6
      have hr := (hk3 k3).1
      have raa2 : rf_aa s kk.2 = s.2.1 108 kk.2.toNat := rfl
      have rx := r108 kk.2.toNat
      have hO2 := hO
      obtain ⟨⟨o1, o2, o3⟩, o4, o5, o6, o7, o8⟩ := hO
      have u108 : u.2.1 108 = s.2.1 108 := (o2.same 108 rfl).2
      have u109 : u.2.1 109 = s.2.1 109 := (o2.same 109 rfl).2
      have f50 := o3 50 rfl
      have f61 := o3 61 rfl
      have f64 := o3 64 rfl
      have f70 := o3 70 rfl
      have ru := o1.fld 66 56 (by decide) rfl
      refine w_fits_249 (PK := fun t => vr_PF nb mark s t g AR 1 m row (.inner j kk uu f n) y W) o1 (by omega) (by omega) (by omega) ?_ ?_ ?_
      · intro hx nn v yy hnn hv hyy
        rw [u108] at hx
        refine ⟨_, by omega, Or.inr (Or.inr (Or.inr (Or.inr (Or.inr (Or.inr (Or.inl (⟨rfl, kk.2, x7, x8, yy, rfl, k3, rfl, hne, hs, hbg, hnb2, ⟨⟨cx_I_ua rfl rfl o1 (by omega) (by omega), cx_F_ua rfl o2, rf_f_ua o3⟩, o4, o5, rf_ag_ua (by omega) (by omega) o6, by omega, fun q hq => ?_⟩, rfl⟩)))))))⟩
        show sx_ua u.2.1 105 nn.toNat v 105 _ = _
        rw [sx_ua_same]
        dsimp only
        by_cases c : (q : Int) = x9
        · rw [if_pos (by omega)]
          omega
        · rw [if_neg (by omega)]
          exact o8 q (by omega)
      · intro hx K' hK'
        rw [u108] at hx
        obtain ⟨jj, jj1, jj2⟩ := hnb2
        obtain ⟨T0, t0⟩ := (hM.1 kk.2 hr.1 hr.2).1 ((s.2.1 108 kk.2.toNat).toNat - 1) (by omega)
        have t0 := t0.1.2
        refine c_v_keep hsL (d + 1) (by omega) kk.2 x8 x7 u K' o1 (by omega) (by omega) (by omega) (by omega) (by omega) (by rw [u108]; omega) (by rw [u108, u109]; omega) hbg.1 (by omega) (fun z t w kf c hW hkf hki hkc hn hA hKC => hK' z t ?_)
        exact vr_ft_keep hI hM hph hR2 hV tA k hm ho hrow hc k3 hne hs hO2 hx (fun q hq hb => ((hbg.2 q (by omega)).mp hb).2) (fun q hq hb => (hbg.2 q (by omega)).mpr ⟨hq, hb⟩) hW hkf hki hkc (hn.2 ⟨jj, by rw [u108]; exact jj1, jj2⟩) hA hKC
      · intro t ht
        exact hK 1 t ht
    · -- 294
      have hv : kk.1 = 2 → -2147483648 ≤ rf_look y kk.2 ∧ rf_look y kk.2 ≤ 2147483647 := fun q => by
        rw [← eR]
        exact rf_look_in hI kN.1 (hI.arr 101 (by decide) rfl _)
      have hv2 := rf_look_in hI kN.1 (hI.arr 101 (by decide) rfl i.toNat)
      rw [eR] at hv2
      refine w_vfits_294 (lk := rf_look y kk.2) (PI := fun z => z ≠ 0 ↔ ∃ q : Nat, (q : Int) < s.2.1 108 m.toNat ∧ s.2.1 105 (row + (q : Int)).toNat = rf_look y kk.2) hI pA (by omega) hv2 ?_ ?_ ?_ ?_
      · intro q u hu K' hK'
        rw [eR] at hu
        rw [hu]
        have h101 := hI.arr 101 (by decide) rfl i.toNat
        rw [eR] at h101
        exact c_r_look hsL 100 (d + 1) (by omega) y b kk.2 s K' hI dY kN.1 h101 hK'
      · intro q hl K' hK'
        exact c_v_isIn hsL (d + 1) (by omega) _ m row s K' hI hv2 (by omega) (by omega) hK'
      · rintro q2k hl ⟨zz, z1, z2⟩
        have q2 : kk.1 = 2 := by rw [← eK]; exact q2k
        refine hK 0 s (vr_PF_0 hI (rf_FS_refl s) (fun th hS hk => ?_))
        rcases (vr_K_rig k0 hk).2 q2 with w | ⟨qq, w1, w2⟩
        · omega
        · exact absurd z1 (z2.mpr ⟨qq, w1, w2.symm⟩)
      · intro hcond
        refine ⟨_, by omega, Or.inr (Or.inr (Or.inr (Or.inr (Or.inr (Or.inr (Or.inr (Or.inr (Or.inl (⟨rfl, rfl, rfl, k0, fun q => ?_, rfl⟩)))))))))⟩
        rcases hcond (by omega) with w | ⟨zz, z1, z2⟩
        · exact Or.inl w
        · obtain ⟨qq, w1, w2⟩ := z2.mp z1
          exact Or.inr ⟨qq, w1, w2.symm⟩
    · -- 338
      refine w_fits_338 hI pA (fun u hu => ⟨_, by omega, Or.inr (Or.inr (Or.inr (Or.inr (Or.inr (Or.inr (Or.inr (Or.inr (Or.inr (⟨rfl, u, g, AR, .leaf, f, rfl, k0, hk2, ⟨⟨rfl, ⟨hI, hM, rf_EX_refl _ _ _, rf_EG_refl _ _, rf_FS_refl s⟩, ⟨rfl, rfl⟩, ⟨hph, hR2, Nat.le_refl _⟩, ho, ?_, hc, fun _ h => h, fun _ h => h.elim, fun _ h => h.elim, trivial⟩, hV, fun _ _ => rfl, ?_, fun _ => ⟨vx_le_refl _, fun th hS hk => ⟨th, hS, vr_ag_refl _ _, (vr_K_rig k0 hk).1⟩⟩⟩, rfl⟩)))))))))⟩)
      · rcases e8 with ⟨c, _⟩ | ⟨c, hx, w, hw, hwf⟩
        · omega
        · refine ⟨w, ?_⟩
          rw [hu, e2]
          exact rf_CL_app k k0 hwf (by omega)
      · rcases tA.2 with ⟨q, _⟩ | ⟨q, _⟩ | ⟨_, q⟩
        · omega
        · omega
        · exact q
    · -- 346
      have hL2 := hL
      obtain ⟨⟨l1, ⟨l2, l3, l4, l5, l6⟩, ⟨l7, l8⟩, ⟨l9, l10, l11⟩, l12, ⟨w, l13⟩, l14, l15, l16, l17, l18⟩, lV, lA, lr, lQ⟩ := hL
      have hgvu : ∀ w, rf_gv s m row mark w → rf_gv u m row mark w := fun w hw => (rf_gv_up l4 hm hrow).mpr hw
      have rr := rf_nd_rng l13.1.1
      have ru := l2.fld 66 50 (by decide) rfl
      have eaa := l4.aa hm.1 hm.2
      have e61 := l4.1.2.2.2.1
      have e56 := l4.1.2.2.1
      refine w_fits_346 (PF := fun z t => x6 ≠ -1 ∧ vr_PF nb mark u t g1 AR1 z m row f1 y W) l2 (by omega) ?_ ?_ ?_ ?_ ?_
      · intro hx
        have hnil := (rf_CR_nil l13).1.mp hx
        subst hnil
        rw [rf_snoc_leaf] at l1
        subst l1
        refine hK 1 u ⟨by omega, l2, l6, fun q => absurd q (by decide), fun _ => ⟨g1, AR1, l3, l4, l5, ⟨l9, l10, l11⟩, ⟨by omega, by omega⟩, l12, fun v hv => ?_, fun z hz => ?_, l14, l15, lV, lA, vr_Q_Z lQ⟩⟩
        · rcases hv with ⟨c, _⟩ | ⟨c, _⟩ | ⟨_, hv⟩
          · omega
          · omega
          · rcases hv with ⟨c1, c2⟩ | hv
            · rw [c2]
              exact hk2 c1
            · exact l16 v hv
        · rcases hz with ⟨c, _⟩ | ⟨c, _⟩ | ⟨_, hz⟩
          · omega
          · omega
          · exact l17 z hz
      · intro hx K' hK'
        obtain ⟨C, D2, z1, z2, n', z3, z4, jj, kk', uu', ff', z5⟩ := rf_CR_cons l13 hx
        have tf : vr_t u AR1 f1 := by
          rw [z5] at lr ⊢
          exact lr.1
        exact ih N f1 y C W (p - 1) x6 b m row mark nb u g1 AR1 K' l2 l3 (by omega) (by omega) l9 l10 lV tf z2 (by omega) (by omega) l12 (by omega) l14 (by omega) (by omega) (fun z t ht => hK' z t ⟨hx, ht⟩)
      · rintro z t ⟨_, c1, c2, _⟩
        exact ⟨c2, c1⟩
      · rintro z t ⟨hne1, c1, c2, c3, c0, _⟩ hz
        refine hK 0 t (vr_PF_0 c2 (rf_FS_trans c3 l6) (vr_Q_N lQ (fun th hS hk => ?_) (c0 hz)))
        obtain ⟨C, D2, z1, z2, n', z3, z4, jj, kk', uu', ff', z5⟩ := rf_CR_cons l13 hne1
        rw [z5] at hk ⊢
        rw [l8]
        exact vr_K_al hgvu (vr_Kr_c (fun m => (hS.1 m).1) hk).1
      · rintro hx z t ⟨_, hP⟩ hz a a2 v ha ha2 hv
        obtain ⟨C, D2, z1, z2, n', z3, z4, jj, kk', uu', ff', z5⟩ := rf_CR_cons l13 hx
        subst z5
        obtain ⟨g2, AR2, hFL⟩ := vr_FL_s hI hm hrow hL2 hx hP hz ha ha2
        rw [← hv] at hFL
        obtain ⟨n2, hn2⟩ : ∃ q, q = n' := ⟨_, rfl⟩
        rw [← hn2] at hFL ⊢
        exact ⟨_, by show rf_len n2 < rf_len n2 + 1; omega, Or.inr (Or.inr (Or.inr (Or.inr (Or.inr (Or.inr (Or.inr (Or.inr (Or.inr (⟨rfl, v, g2, AR2, _, n2, rfl, k0, hk2, hFL, rfl⟩)))))))))⟩
theorem c_v_fits {sL : Nat} {sx : Nat → Int32} (hsL : sL ≤ 3072) : ∀ P d : Nat, P + 130 ≤ d → vr_FT sL sx P d
  | 0, d, _ => by
    intro N A y x W p i b m row mark nb s g AR K hI hM hnb hmk hph hR hV tA k hp
    obtain ⟨j, kk, uu, f, n, eA, _⟩ := rf_CL_node k
    subst eA
    have hpp := rf_wy_pos k.2.2.2 hph
    have hw1 := rf_wh_pos (j := j) (k := kk) (u := uu) (f := f) (x := n)
    omega
  | P + 1, d, hd => by
    obtain ⟨d, rfl⟩ : ∃ e, d = e + 2 := ⟨d - 2, by omega⟩
    exact vr_ft_ok hsL (by omega) (c_v_fits hsL P (d + 1) (by omega))
end
section
/-! ===== the reference: bind, and the solutions ===== -/
theorem vr_MI_bind {v t : sx_S} {g : rf_Gh} {N : Int → rf_T → Prop} {B : rf_N} {y : rf_Y} {W : List Nat} {p : Nat} {b bb m row : Int} (hM : rf_MI (v.1 66 71) (v.1 66 58) v g) (k : rf_CL v g N B y .leaf W p b bb) (k3 : v.2.1 100 b.toNat ≠ 3) (hm : 0 ≤ m ∧ m < v.1 66 61) (ho : v.2.1 111 m.toNat = 0) (hrow : 0 ≤ row ∧ row + rf_aa v m ≤ v.1 66 56) (hf2 : ∀ q : Nat, (q : Int) < rf_aa v m → ∃ T, rf_py v m q T ∧ rf_vb (v.1 66 58) v (v.2.1 105 (row + (q : Int)).toNat) T) (hf3 : ∀ p q : Nat, (p : Int) < rf_aa v m → (q : Int) < rf_aa v m → v.2.1 105 (row + (p : Int)).toNat = v.2.1 105 (row + (q : Int)).toNat → p = q) (hgv : ∀ w, (rf_fo (rf_Wd v g.2.2) B).1 w → rf_gv v m row (v.1 66 58) (rf_look y w)) (hac : ∀ x, (rf_oc B).1 x → x ≠ m ∧ ¬ rf_rc (rf_Ed v g) x m) (hA : rf_AS v t m row b bb) : ∃ g' : rf_Gh, rf_MI (v.1 66 71) (v.1 66 58) t g' ∧ rf_EG v g g' ∧ rf_ph t g' ≤ rf_ph v g ∧ rf_qu t + 1 ≤ rf_qu v ∧ g'.1 m = B ∧ g'.2.1 m = y := by
  have hE : rf_EX (v.1 66 71) (v.1 66 58) v t := rf_AS_EX hm.1 ho hA
  obtain ⟨a1, a2, a3, a4, a5, a6, a7, a8, a9⟩ := hA
  have e61 := a3 61 rfl
  have e56 := a3 56 rfl
  obtain ⟨j, kk, uu, f, n, eB, e1, e2, e3, e4, e5, _⟩ := rf_CL_node k
  have hN0 : ∀ w T, ¬ N w T := k.1.2.2.1.2.elim (fun z => by
    rw [eB] at z
    have z2 : kk.1 = 3 := z
    rw [e2, e4] at k3
    exact absurd z2 k3) id
  have kc := k
  obtain ⟨⟨c1, c2, c3, ⟨y1, y2, y3, y4⟩⟩, ⟨d1, d2⟩, d3, d4⟩ := k
  have hft := rf_fo_typed hM.ub c1 c2 ⟨y1, y2, y3, y4⟩
  have eaa := hE.aa hm.1 hm.2
  have s105 : t.2.1 105 = v.2.1 105 := (a2.same 105 rfl).2
  have hfm : ∀ q, rf_fm t m q = v.2.1 105 (row + (q : Int)).toNat := fun q => by
    unfold rf_fm
    rw [s105, a7]
  have e111 : ∀ q : Nat, (q : Int) < v.1 66 61 → (q : Int) ≠ m → t.2.1 111 q = v.2.1 111 q := fun q _ hq => a5 111 q (by omega) (by omega) hq
  have ht0 : t.2.1 111 m.toNat ≠ 0 := by rw [a6]; decide
  generalize hg : ((fun z => if z = m then B else g.1 z, fun z => if z = m then y else g.2.1 z, fun z q => if z = m then (q : Int) < rf_aa v m else g.2.2 z q) : rf_Gh) = g'
  have b1 : g'.1 m = B := by rw [← hg]; exact if_pos rfl
  have b2 : g'.2.1 m = y := by rw [← hg]; exact if_pos rfl
  have b3 : ∀ q : Nat, g'.2.2 m q ↔ (q : Int) < rf_aa v m := fun q => by
    rw [← hg]
    dsimp only
    rw [if_pos rfl]
  have f1 : ∀ z, z ≠ m → g'.1 z = g.1 z := fun z e => by rw [← hg]; exact if_neg e
  have f2 : ∀ z, z ≠ m → g'.2.1 z = g.2.1 z := fun z e => by rw [← hg]; exact if_neg e
  have f3 : ∀ z, z ≠ m → g'.2.2 z = g.2.2 z := fun z e => by
    rw [← hg]
    funext q
    exact if_neg e
  have hU : ∀ r q, 0 ≤ r → r < v.1 66 61 → g'.2.2 r q → g.2.2 r q ∧ (q : Int) < rf_aa v r := fun r q r0 r1 hq => by
    by_cases c : r = m
    · subst c
      have := (b3 q).mp hq
      exact ⟨(hM.1 r r0 r1).2.2.1 ho q this, this⟩
    · rw [f3 r c] at hq
      exact ⟨hq, hM.ub r q r0 r1 hq⟩
  have hbn := (rf_bn_gn c1).1 _ c2
  have hfo := (rf_Wd_up hE hU (n := B)).1 hbn
  have hSV : rf_SV (v.1 66 71) (v.1 66 58) t g' m := by
    unfold rf_SV
    rw [b1, b2, a7, a8, a9, eaa, e56]
    refine ⟨⟨hE.no c1, (rf_gn_up hE (Int.le_refl _) (fun w T z => absurd z (hN0 w T)) c1).1 _ c2, d3, (rf_di_up hE hU).1 hbn d1⟩, ⟨rf_by_mono (fun q hq => (hE.2 q).2.2.2.2.2 hq) (Int.le_refl _) y1, y2, rf_okV_up hE (Int.le_refl _) y2 (fun w T z => y3 w T (z.imp id (fun q => q.elim))), by omega⟩, ⟨hrow, fun q hq => ?_, Or.inr (fun q hq => ?_), fun p q hp hq e => ?_⟩, fun w hw => ?_, fun w w' hw hw' => d2 w w' (hfo w hw) (hfo w' hw')⟩
    · obtain ⟨T, t1, t2⟩ := hf2 q hq
      rw [hfm]
      exact Or.inl ⟨T, hE.pt hm.1 hm.2 t1, (hE.vb (Int.le_refl _) _ _).mpr t2⟩
    · obtain ⟨T, t1, t2⟩ := hf2 q hq
      rw [hfm]
      exact t2.1.1
    · rw [hfm, hfm] at e
      exact hf3 p q hp hq e
    · obtain ⟨T, hT⟩ := hft w (hfo w hw)
      rcases hgv w (hfo w hw) with z | ⟨q, q1, q2⟩
      · have := hT.1.2
        omega
      · exact ⟨q, (b3 q).mpr q1, by rw [hfm]; exact q2⟩
  have hset := rf_MI_set hE (Int.le_refl _) (Int.le_refl _) hm.1 hm.2 e61 ho ht0 e111 f1 f2 f3 (fun q hq => (b3 q).mp hq) hSV (by rw [b1]; exact hac) hM
  refine ⟨g', hset.1, hset.2, ?_, ?_, b1, b2⟩
  · have := rf_ph_set (g := g) (g' := g') hm.1 hm.2 e61 ho ht0 (fun q hq hq2 => ⟨e111 q hq hq2, by rw [(a2.same 108 rfl).2]⟩) f1
    rw [b1] at this
    omega
  · have := rf_qu_set hm.1 hm.2 e61 ho ht0 (fun q hq hq2 => ⟨e111 q hq hq2, by rw [(a2.same 108 rfl).2]⟩)
    omega
theorem vr_gv_mk {nb ib : Int} {v t : sx_S} {g g' : rf_Gh} {AR : Nat → List Int} {m row b bb : Int} {B : rf_N} (hI : cx_I v) (hM : rf_MI nb ib v g) (hG : rf_EG v g g') (hV : vr_G v g AR) (hm : 0 ≤ m ∧ m < v.1 66 61) (ho : v.2.1 111 m.toNat = 0) (hA : rf_AS v t m row b bb) (eB : g'.1 m = B) (tB : vr_t v AR B) : vx_gv (vr_S v g AR) (vr_S t g' AR) m (vr_1 B) (vr_e t g' m) ∧ vr_G t g' AR := by
  have hE : rf_EX nb ib v t := rf_AS_EX hm.1 ho hA
  obtain ⟨a1, a2, a3, a4, a5, a6, a7, a8, a9⟩ := hA
  have e61 := a3 61 rfl
  have e50 := a3 50 rfl
  have ht0 : t.2.1 111 m.toNat ≠ 0 := by rw [a6]; decide
  have e111 : ∀ x : Int, 0 ≤ x → x ≠ m → t.2.1 111 x.toNat = v.2.1 111 x.toNat := fun x h0 hx => a5 111 _ (by omega) (by omega) (by omega)
  have ear : vr_ar t = vr_ar v := by
    funext x
    unfold vr_ar rf_aa
    rw [e61, (a2.same 108 rfl).2]
  refine ⟨⟨⟨e61, e50, ear, rfl⟩, ⟨vr_bo_no ho, hm.1, hm.2⟩, fun x => ?_, ⟨(vr_in hI).1 tB, vr_1_ne (vr_t_ne tB), vr_1_1 _⟩, fun z => ?_⟩, fun x h0 h1 hs => ?_⟩
  · show vr_bo t g' x = if x = m then some (vr_1 B, vr_e t g' m) else vr_bo v g x
    by_cases c : x = m
    · rw [if_pos c, c, vr_bo_at (by omega) ht0, eB]
    · rw [if_neg c]
      by_cases c2 : 0 ≤ x ∧ x < v.1 66 61
      · have e1 := e111 x c2.1 c
        by_cases cs : v.2.1 111 x.toNat = 0
        · rw [vr_bo_no cs, vr_bo_no (by rw [e1]; exact cs)]
        · exact vr_bo_up hE hG hM c2 cs
      · rw [vr_bo_out c2, vr_bo_out (by omega)]
  · show vr_e t g' m z < vr_ar v m
    rw [← ear, vr_ar_at (by omega)]
    exact vr_e_lt a1 g' m z
  · by_cases c : x = m
    · rw [c, eB]
      exact (vr_t_up hE (fun _ _ => rfl)).1 tB
    · rw [e111 x h0 c] at hs
      rw [((hG x h0 (by omega)).1 hs).1]
      exact (vr_t_up hE (fun _ _ => rfl)).1 (hV x h0 (by omega) hs)
theorem c_v_bind {sL : Nat} {sx : Nat → Int32} (hsL : sL ≤ 3072) : ∀ (NA NB : Int → rf_T → Prop) (A B : rf_N) (yA yB : rf_Y) (x : rf_T) (WA WB : List Nat) (pa pb p d : Nat) (a ba b bb : Int) (s : sx_S) (g : rf_Gh) (AR : Nat → List Int) (K : Int → sx_S → Prop), pb + 140 ≤ d → cx_I s → rf_MI (s.1 66 71) (s.1 66 58) s g → rf_ph s g ≤ 1150 → rf_RM 0 s → vr_G s g AR → vr_t s AR A → vr_t s AR B → rf_CL s g NA A yA x WA pa a ba → rf_CL s g NB B yB x WB pb b bb → s.2.1 100 a.toNat = 3 → s.2.1 100 b.toNat ≠ 3 → s.2.1 111 (s.2.1 101 a.toNat).toNat = 0 → s.1 66 71 + (pb : Int) ≤ 399900 → s.1 66 58 + (pb : Int) ≤ 399900 → (∀ z t, vr_PU s t g AR z p (vr_E AR A yA B yB (s.1 66 58)) → K z t) → sx_C sL sx d 198 [.inr (.inl 66), .inl a, .inl ba, .inl b, .inl bb] s K := by
  intro NA NB A B yA yB x WA WB pa pb p d a ba b bb s g AR K hd hI hM hph hR hV tA tB kA kB hA3 hB3 ho h71 h58 hK
  obtain ⟨d, rfl⟩ : ∃ e, d = e + 2 := ⟨d - 2, by omega⟩
  have pA := rf_CL_b hI kA
  obtain ⟨m0, m1, hx, _⟩ := rf_CL_3 kA hA3
  subst hx
  obtain ⟨mm, hmm⟩ : ∃ m, m = s.2.1 101 a.toNat := ⟨_, rfl⟩
  have hEV : ∀ th, vx_gd th → vr_V th AR A yA (s.1 66 58) = vx_re (vx_ix ((List.range (rf_aa s mm).toNat).map (rf_vo s yA a)) (s.1 66 58)) (th mm) := fun th hg => vr_E_3 kA hA3 hmm tA (fun m => (hg m).1)
  have hBk : ¬ rf_k3 B := fun z => by
    obtain ⟨j, kk, uu, f, n, eB, e1, e2, e3, e4, e5, _⟩ := rf_CL_node kB
    rw [eB] at z
    rw [e2, e4] at hB3
    exact hB3 z
  rw [← hmm] at m0 m1 ho
  have har : rf_aa s mm = s.2.1 108 mm.toNat := rfl
  have hR2 := hR
  obtain ⟨q1, q2, q3, q4, q5, q6⟩ := hR
  have r108 := hI.arr 108 (by decide) rfl mm.toNat
  have r56 := hI.fld 66 56 (by decide) rfl
  have r61 := hI.fld 66 61 (by decide) rfl
  have r58 := hI.fld 66 58 (by decide) rfl
  have r71 := hI.fld 66 71 (by decide) rfl
  have yA4 := kA.1.2.2.2
  have dA : rf_dp yA ≤ 100 := by have := yA4.2.2.2; omega
  refine sx_methL (wr := true) (n := 400) (n' := 400) (stop := [(19, [0, 3, 4, 5, 6, 7])]) (fun ms pc ls u => (pc = 19 ∧ ∃ x5 x6 x7 : Int, ls = [(0, .inr (.inl 66)), (3, .inl b), (4, .inl bb), (5, .inl x5), (6, .inl x6), (7, .inl x7)] ∧ x6 = mm ∧ (rf_BB s u mm x5 ∧ ∀ q : Nat, (q : Int) < rf_aa u mm → u.2.1 105 (x5 + (q : Int)).toNat = rf_vo s yA a q) ∧ (0 ≤ x7 ∧ x7 ≤ s.1 66 61) ∧ (∀ q : Nat, (q : Int) < x7 → u.2.1 124 q = 0) ∧ ms = (3000 - x7).toNat)) hsL (e := eX12_bind) rfl ?_ ?_
  · refine w_bind (PA := fun z t => cx_I t ∧ (rf_BB s t mm z ∧ ∀ q : Nat, (q : Int) < rf_aa t mm → t.2.1 105 (z + (q : Int)).toNat = rf_vo s yA a q) ∧ t.2.1 101 = s.2.1 101) pA ?_ ?_ ?_
    · intro K' hK'
      refine c_r_actual hsL 100 (d + 1) (by omega) yA a ba (s.2.1 108 mm.toNat) s K' hI pA (by omega) (by rw [hmm]) (by omega) (fun k hk => by omega) dA yA4.1 (fun z t c1 c2 c3 c4 c5 c6 c7 => hK' z t ⟨c1, ?_, (c2.same 101 rfl).2⟩)
      obtain ⟨hE, hFS⟩ := rf_EX_row (nb := s.1 66 71) (ib := s.1 66 58) c2 c3 c6 (by omega)
      have hNC : rf_NC s t := rf_NC_F c2 rfl c3 rfl
      obtain ⟨z1, z2, z3, z4⟩ := rf_act_ok hM kA hA3 hmm ho c2 c3 c4 c5 c6 c7 r108.1 r56.1
      refine ⟨⟨⟨c1, hE, hNC, hFS⟩, ⟨c3 71 rfl, c3 58 rfl, c3 70 rfl, c3 50 rfl, c3 61 rfl, c3 64 rfl, by omega, by omega⟩, z2, z3, z4⟩, fun q hq => c7 q ?_⟩
      have : rf_aa t mm = s.2.1 108 mm.toNat := by unfold rf_aa; rw [(c2.same 108 rfl).2]
      omega
    · rintro z t ⟨c1, _⟩
      exact c1
    · rintro z t ⟨c1, c2, c3⟩ m hm
      exact ⟨_, rfl, z, m, 0, rfl, by rw [hm, c3, hmm], c2, by omega, fun q hq => by omega, rfl⟩
  · rintro ms pc ls u ⟨rfl, x5, x6, x7, rfl, rfl, ⟨hB, hBc⟩, h7, hz, rfl⟩
    have hB2 := hB
    obtain ⟨⟨u1, u2, u3, u4⟩, ⟨u71, u58, u70, u50, u61, u64, u56, u56'⟩, ⟨c1, c2⟩, c3, c4⟩ := hB
    have hmw : 0 ≤ x6 ∧ x6 < u.1 66 61 := by omega
    have rau := u1.arr 108 (by decide) rfl x6.toNat
    have rau2 : rf_aa u x6 = u.2.1 108 x6.toNat := rfl
    have ru56 := u1.fld 66 56 (by decide) rfl
    have hMu : rf_MI (u.1 66 71) (u.1 66 58) u g := rf_NC_MI u2 u3 (by omega) (by omega) hM
    have kBu := rf_CL_up u2 (by omega) (by omega) (rf_EG_refl s g) hM.ub kB
    have hqu : rf_qu u = rf_qu s := rf_NC_qu u2 u3
    have hphu : rf_ph u g = rf_ph s g := rf_NC_ph u2 u3
    have hou : u.2.1 111 x6.toNat = 0 := by rw [u3.2 _ (by omega)]; exact ho
    have hVu : vr_G u g AR := vr_G_up u2 (rf_EG_refl _ _) u3 (fun _ _ => rfl) hV
    have tBu : vr_t u AR B := (vr_t_up u2 (fun _ _ => rfl)).1 tB
    have eS : vr_S u g AR = vr_S s g AR := vr_S_NC u2 u3 u50 hM
    have eau : rf_aa u x6 = rf_aa s x6 := u2.aa m0.1 m0.2
    have hPK : ∀ th, vx_So (vr_S s g AR) th → vr_E AR A yA B yB (s.1 66 58) th → vr_K (rf_gv u x6 x5 (u.1 66 58)) x6 AR B yB (u.1 66 58) th := fun th hS hp => by
      have hp' : vr_V th AR A yA (s.1 66 58) = vr_V th AR B yB (s.1 66 58) := hp
      rw [hEV th hS.1] at hp'
      rw [u58]
      refine vr_K_0 hS.1 (fun w hw => ?_) (fun w hw => Or.inl hw) hBk hp'
      obtain ⟨q, q1, q2⟩ := vr_gm.mp hw
      exact Or.inr ⟨q, by omega, by rw [hBc q (by omega)]; exact q2⟩
    refine w_bind_19 (PF := fun z t => s.1 66 61 ≤ x7 ∧ vr_PF (u.1 66 71) (u.1 66 58) u t g AR z x6 x5 B yB WB) (PA := fun z t => z = 1 ∧ vr_PU s t g AR 1 p (vr_E AR A yA B yB (s.1 66 58))) u1 (by omega) (by omega) ?_ ?_ ?_ ?_ ?_ ?_
    · intro hx y hy
      refine ⟨_, by omega, rfl, x5, x6, y, rfl, rfl, ⟨rf_BB_mark m0 hB2, fun q hq => (congrFun (sx_ua_ne (A := u.2.1) (p := 124) (p' := 105) (j := x7.toNat) (v := 0) (by decide)) _).trans (hBc q (by have e := ((rf_EX_mark (nb := u.1 66 71) (ib := u.1 66 58) (s := u) (n := x7.toNat) (v := 0)).1).aa hmw.1 hmw.2; omega))⟩, by omega, fun q hq => ?_, rfl⟩
      show sx_ua u.2.1 124 x7.toNat 0 124 q = 0
      rw [sx_ua_same]
      dsimp only
      by_cases cq : q = x7.toNat
      · rw [if_pos cq]
      · rw [if_neg cq]
        exact hz q (by omega)
    · intro hx mk hmk K' hK'
      rw [hmk]
      refine c_v_fits hsL pb (d + 1) (by omega) NB B yB .leaf WB pb b bb x6 x5 (u.1 66 58) (u.1 66 71) u g AR K' u1 hMu (Int.le_refl _) (by omega) (by omega) ?_ hVu tBu kBu (Nat.le_refl _) hmw hou ⟨c1, c2⟩ ?_ (by omega) (by omega) (fun z t ht => hK' z t ⟨by omega, ht⟩)
      · exact ⟨by omega, by omega, by omega, by omega, by omega, by omega⟩
      · intro q hq hcl
        exact absurd (hz q (by omega)) hcl
    · rintro z t ⟨_, f1, _⟩
      exact f1
    · rintro z t ⟨_, f1, f2, f3, f0, _⟩ hz0 a1 a2 ha1 ha2
      have hN0 := f0 hz0
      rw [eS] at hN0
      rw [hz0]
      refine hK 0 _ (vr_PU_0 ?_ (rf_FS_back (rf_FS_trans f3 u4) (by omega)) (vr_N_cg hPK hN0))
      exact cx_I_uf rfl rfl (cx_I_uf rfl rfl f2 (by omega) (by omega)) (by omega) (by omega)
    · rintro z t ⟨_, f1, f2, f3, f0, f4⟩ hz0 a1 a2 ha1 ha2 K' hK'
      obtain ⟨g', AR', k1, k2, k3, ⟨k4, k5, k6⟩, ⟨k7, k8⟩, k9, k10, k11, k12, k13, k14, k15, k16⟩ := f4 hz0
      obtain ⟨o1, o2, o3⟩ := rf_back_f (a := a1) (b := a2) (t := t)
      have hfsv : rf_FS s (sx_uf (sx_uf t.1 66 71 a1) 66 58 a2, t.2) := rf_FS_back (rf_FS_trans f3 u4) (by omega)
      have hcv : cx_I (sx_uf (sx_uf t.1 66 71 a1) 66 58 a2, t.2) := cx_I_uf rfl rfl (cx_I_uf rfl rfl f2 (by omega) (by omega)) (by omega) (by omega)
      have hEB : ∀ nb ib, rf_EX nb ib t (sx_uf (sx_uf t.1 66 71 a1) 66 58 a2, t.2) := fun nb ib => rf_EX_back
      generalize hv : ((sx_uf (sx_uf t.1 66 71 a1) 66 58 a2, t.2) : sx_S) = v at hfsv hcv hEB ⊢
      have v1 : v.1 = sx_uf (sx_uf t.1 66 71 a1) 66 58 a2 := by rw [← hv]
      have v2 : v.2.1 = t.2.1 := by rw [← hv]
      have o1' : ∀ q, q ≠ 71 → q ≠ 58 → v.1 66 q = t.1 66 q := fun q a b => by rw [v1]; exact o1 q a b
      have e71 : v.1 66 71 = u.1 66 71 := by rw [v1, o2]; exact ha1
      have e58 : v.1 66 58 = u.1 66 58 := by rw [v1, o3]; exact ha2
      have hNC : rf_NC t v := ⟨o1' 61 (by decide) (by decide), fun q _ => by rw [v2]⟩
      have hEu : rf_EX (u.1 66 71) (u.1 66 58) u v := rf_EX_trans (hEB _ _) k2 (Int.le_refl _) (Int.le_refl _)
      have kBv := rf_CL_up hEu (by omega) (by omega) k3 hMu.ub kBu
      have hMv : rf_MI (v.1 66 71) (v.1 66 58) v g' := by
        rw [e71, e58]
        exact rf_NC_MI (hEB _ _) hNC (Int.le_refl _) (Int.le_refl _) k1
      have hquv : rf_qu v = rf_qu t := rf_NC_qu (hEB 0 0) hNC
      have hphv : rf_ph v g' = rf_ph t g' := rf_NC_ph (hEB 0 0) hNC
      have eav := hEu.aa hmw.1 hmw.2
      have e61v := hEu.1.2.2.2.1
      have e56v := hEu.1.2.2.1
      have hfm : ∀ q : Nat, (q : Int) < rf_aa u x6 → v.2.1 105 (x5 + (q : Int)).toNat = u.2.1 105 (x5 + (q : Int)).toNat := fun q hq => (hEu.2 _).2.1 (by omega)
      have rv50 := hcv.fld 66 50 (by decide) rfl
      have pBv := rf_CL_b hcv kBv
      have hbyv := rf_by_hi kBv.1.2.2.2.1
      have k5' := k5
      obtain ⟨s1, s2, s3, s4, s5, s6⟩ := k5'
      have w50 := o1' 50 (by decide) (by decide)
      have w56 := o1' 56 (by decide) (by decide)
      have w61 := o1' 61 (by decide) (by decide)
      have w64 := o1' 64 (by decide) (by decide)
      have w70 := o1' 70 (by decide) (by decide)
      have h70t := k2.1.2.2.2.2.2
      have hb3v : v.2.1 100 b.toNat ≠ 3 := by
        obtain ⟨j, kk, uu, f, n, eB, e1, e2, e3, e4, e5, _⟩ := rf_CL_node kB
        have pb1 := rf_CL_node kBv
        obtain ⟨j', kk', uu', f', n', eB', e1', e2', e3', e4', e5', _⟩ := pb1
        rw [eB] at eB'
        cases eB'
        rw [e2', e4', ← e4, ← e2]
        exact hB3
      refine c_r_assign hsL (d + 1) (by omega) x6 x5 b bb v K' hcv (by omega) (by omega) pBv (by omega) (by omega) (fun zz t2 g1 g2 g3 g4 g5 g6 => hK' zz t2 ⟨by omega, ?_⟩)
      have hA : rf_AS v t2 x6 x5 b bb := ⟨g1, g2, g3, g4, g5, g6⟩
      obtain ⟨g3', j1, j2, j3, j4, j5, j6⟩ := vr_MI_bind hMv kBv hb3v (by omega) (by rw [v2]; exact k9) (by rw [eav]; omega) (fun q hq => by
        rw [eav] at hq
        obtain ⟨T, t1, t2'⟩ := c3 q hq
        rw [hfm q hq, e58]
        exact ⟨T, hEu.pt hmw.1 hmw.2 t1, (hEu.vb (Int.le_refl _) _ _).mpr t2'⟩) (fun p q hp hq e => by
        rw [eav] at hp hq
        rw [hfm p hp, hfm q hq] at e
        exact c4 p q hp hq e) (fun w hw => by
        rw [e58, rf_gv_up hEu hmw ⟨c1, c2⟩]
        refine k10 w ?_
        have eWd : rf_Wd v g'.2.2 = rf_Wd t g'.2.2 := by
          funext jj r w
          unfold rf_Wd rf_rv1
          rw [v2]
        rw [← eWd]
        exact hw) (fun w hw => by
        obtain ⟨w1, w2⟩ := k11 w hw
        exact ⟨w1, fun z => w2 ((rf_rc_NC hNC).mp z)⟩) hA
      have hE2 : rf_EX (s.1 66 71) (s.1 66 58) v t2 := rf_AS_EX hmw.1 (by rw [v2]; exact k9) hA
      have hVv : vr_G v g' AR' := vr_G_up (hEB 0 0) (rf_EG_refl _ _) hNC (fun _ _ => rfl) k14
      have tBv : vr_t v AR' B := (vr_t_up hEu k15).1 tBu
      obtain ⟨hgv, hGT⟩ := vr_gv_mk hcv hMv j2 hVv (by omega) (by rw [v2]; exact k9) hA j5 tBv
      have eSv : vr_S v g' AR' = vr_S t g' AR' := vr_S_NC (hEB _ _) hNC (o1' 50 (by decide) (by decide)) k1
      have hYs : vr_Y (vr_S s g AR) (vr_S t2 g3' AR') (vr_E AR A yA B yB (s.1 66 58)) := by
        have c5 := ((j1.1 x6 (by omega) (by have := g3 61 rfl; omega)).2.2.2 (by rw [g6.1]; decide)).2.2.1.2.2.2
        have ea2 : rf_aa t2 x6 = rf_aa s x6 := by
          have : rf_aa t2 x6 = rf_aa v x6 := by unfold rf_aa; rw [(g2.same 108 rfl).2]
          omega
        have hfm2 : ∀ q : Nat, (q : Int) < rf_aa s x6 → rf_fm t2 x6 q = rf_vo s yA a q := fun q hq => by
          unfold rf_fm
          rw [g6.2.1, (g2.same 105 rfl).2, hfm q (by omega)]
          exact hBc q (by omega)
        have r0 := vr_aa0 hI x6
        obtain ⟨bd1, bd2⟩ := vr_bind (d := rf_look yB) (L := s.1 66 58) (xs := (List.range (rf_aa s x6).toNat).map (rf_vo s yA a)) hgv r58.1 (by
          show _ = vr_ar v x6
          rw [vr_gl, vr_ar_at (by omega)]
          omega) (vr_gn (fun i j hi hj e => c4 i j (by omega) (by omega) (by rw [hBc i (by omega), hBc j (by omega)]; exact e))) (fun w hw => by
          obtain ⟨q, q1, q2⟩ := vr_gm.mp hw
          rw [q2]
          exact vr_vo_in kA hA3 hmm (by omega)) (fun w hw => by
          have := (vr_rng kBv tBv w hw).2
          omega) (fun w hw => by
          obtain ⟨q, q1, q2, q3⟩ := vr_e_nn hw
          rw [j6, hfm2 q (by omega)] at q3
          rw [q2, Int.toNat_natCast, vx_getD (vr_gr.mpr ⟨by omega, rfl⟩)]
          exact q3) (fun w i hi => by
          obtain ⟨q1, q2⟩ := vr_gr.mp hi
          exact vr_e_at c5 (by omega) (by rw [j6, hfm2 i (by omega)]; exact q2))
        have hz := k16 trivial
        rw [eS, ← eSv] at hz
        intro _
        refine ⟨vx_le_trans hz.1 (vx_gv_le hgv), fun th hT => ?_, fun th hS hp => ?_⟩
        · show vr_V th AR A yA (s.1 66 58) = vr_V th AR B yB (s.1 66 58)
          rw [hEV th hT.1, bd1 th hT]
          exact (vr_V_up u1 k15).1 tBu
        · obtain ⟨th', h1, h2⟩ := hz.2 th hS (hPK th hS hp)
          refine ⟨th', bd2 th' h1 ?_, h2⟩
          have hp' : vr_V th AR A yA (s.1 66 58) = vr_V th AR B yB (s.1 66 58) := hp
          have e1 : th' x6 = th x6 := h2 x6 m0.1 m0.2
          have e2 : vr_V th' AR' B yB (s.1 66 58) = vr_V th AR B yB (s.1 66 58) := ((vr_V_up u1 k15).1 tBu).trans ((vr_V_ag hI h2).1 tB)
          rw [e1, ← hEV th hS.1, hp', ← e2]
          rfl
      have x71 := g3 71 rfl
      have x58 := g3 58 rfl
      have x50 := g3 50 rfl
      have x56 := g3 56 rfl
      have x61 := g3 61 rfl
      have x64 := g3 64 rfl
      have hEsv : rf_EX (s.1 66 71) (s.1 66 58) s v := rf_EX_trans hEu u2 (by omega) (by omega)
      refine vr_PU_1 (AR := AR) g1 (rf_FS_trans (rf_FS_AS hA) hfsv) ?_ (rf_EX_trans hE2 hEsv (Int.le_refl _) (Int.le_refl _)) (rf_EG_trans hEsv j2 (rf_EG_trans u2 k3 (rf_EG_refl _ _))) (by omega) ⟨by omega, by omega, by omega, by omega, by omega, by omega⟩ (by omega) (by omega) (by omega) (by omega) hGT (fun j hj => k15 j (by omega)) hYs
      rw [show t2.1 66 71 = v.1 66 71 by omega, show t2.1 66 58 = v.1 66 58 by omega]
      exact j1
    · rintro z t ⟨rfl, ht⟩
      exact hK 1 t ht
end
section
/-! ===== the reference: unify and the solutions, what it is made of ===== -/
theorem vr_PU_pre {s s1 t : sx_S} {g : rf_Gh} {AR : Nat → List Int} {z : Int} {p p' : Nat} {P P' : (Int → rf_N) → Prop} (hI : cx_I s) (hM : rf_MI (s.1 66 71) (s.1 66 58) s g) (hV : vr_G s g AR) (h50 : s1.1 66 50 = s.1 66 50) (hPP : ∀ th, vx_So (vr_S s g AR) th → (P' th ↔ P th)) (hE : rf_EX (s.1 66 71) (s.1 66 58) s s1) (hN : rf_NC s s1) (hF : rf_FS s s1) (h70 : s1.1 66 70 = s.1 66 70) (h71 : s.1 66 71 ≤ s1.1 66 71 ∧ s1.1 66 71 + (p' : Int) ≤ s.1 66 71 + (p : Int)) (h58 : s.1 66 58 ≤ s1.1 66 58 ∧ s1.1 66 58 + (p' : Int) ≤ s.1 66 58 + (p : Int)) (h : vr_PU s1 t g AR z p' P') : vr_PU s t g AR z p P := by
  obtain ⟨h1, h2, h3, h0, h4⟩ := h
  have eS : vr_S s1 g AR = vr_S s g AR := vr_S_NC hE hN h50 hM
  refine ⟨h1, h2, rf_FS_trans h3 hF, fun hz => ?_, fun hz => ?_⟩
  · have := h0 hz
    rw [eS] at this
    exact vr_N_cg (fun th hS hp => (hPP th hS).mpr hp) this
  obtain ⟨g', AR', k1, k2, k3, ⟨k4, k5, k6⟩, ⟨k7, k8⟩, ⟨k9, k10⟩, k11, k12, k13, k14, k15⟩ := h4 hz
  have hq := rf_NC_qu hE hN
  rw [hq] at k6 k8 k10 k12
  have a1 := rf_ar3 (e := (s1.1 66 71 - s.1 66 71).toNat) (p' := p') (p := p) (M := max 1 (rf_qu s - rf_qu t)) (by omega) (Nat.le_max_left _ _)
  have a2 := rf_ar3 (e := (s1.1 66 58 - s.1 66 58).toNat) (p' := p') (p := p) (M := max 1 (rf_qu s - rf_qu t)) (by omega) (Nat.le_max_left _ _)
  rw [eS] at k15
  refine ⟨g', AR', k1, rf_EX_trans k2 hE (by omega) (by omega), rf_EG_trans hE k3 (rf_EG_refl _ _), ⟨k4, k5, k6⟩, ⟨by omega, by omega⟩, ⟨by omega, by omega⟩, fun q => ?_, fun q => k12 (by omega), k13, fun j hj => k14 j (by omega), vr_Y_cg (vr_W hI hV) hPP k15⟩
  have := k11 (by omega)
  exact ⟨this.1.trans hN.1, fun j hj => (this.2 j (by have := hN.1; omega)).trans (hN.2 j hj)⟩
theorem vr_UB_S {s u : sx_S} {g : rf_Gh} {AR : Nat → List Int} {p p' : Nat} (h : rf_UB s u p p') (hM : rf_MI (s.1 66 71) (s.1 66 58) s g) : vr_S u g AR = vr_S s g AR := vr_S_NC h.1.2.1 h.1.2.2.1 h.2.2.2.1 hM
theorem vr_UB_PU {s u t : sx_S} {g : rf_Gh} {AR : Nat → List Int} {z : Int} {p p' : Nat} {P P' : (Int → rf_N) → Prop} (hI : cx_I s) (hM : rf_MI (s.1 66 71) (s.1 66 58) s g) (hV : vr_G s g AR) (h : rf_UB s u p p') (hp : p' ≤ p) (hPP : ∀ th, vx_So (vr_S s g AR) th → (P' th ↔ P th)) (k : vr_PU u t g AR z p' P') : vr_PU s t g AR z p P := by
  obtain ⟨⟨a1, a2, a3, a4⟩, ⟨b1, b2⟩, c1, c2, c3, c4, c5, c6⟩ := h
  exact vr_PU_pre hI hM hV c2 hPP a2 a3 a4 c6 ⟨b1, b2⟩ ⟨by omega, by omega⟩ k
/-- solved but for R -/
def vr_UQ (S T : vx_S) (P R : (Int → rf_N) → Prop) : Prop := True → vx_le S T ∧ (∀ th, vx_So T th → R th → P th) ∧ ∀ th, vx_So S th → P th → ∃ th', vx_So T th' ∧ vx_ag S.1 th th' ∧ R th'
/-- two rows are the same -/
def vr_XE (AR : Nat → List Int) (A : rf_N) (yA : rf_Y) (B : rf_N) (yB : rf_Y) (L : Int) (th : Int → rf_N) : Prop := vr_X th AR A yA L = vr_X th AR B yB L
def vr_UL (s u : sx_S) (g g1 : rf_Gh) (AR AR1 : Nat → List Int) (fa fb : rf_N) (yA yB : rf_Y) (P : (Int → rf_N) → Prop) : Prop := vr_G u g1 AR1 ∧ (∀ j : Nat, (j : Int) < s.1 66 50 → AR1 j = AR j) ∧ (vr_r u AR1 fa ∧ vr_r u AR1 fb) ∧ vr_UQ (vr_S s g AR) (vr_S u g1 AR1) P (vr_XE AR1 fa yA fb yB (u.1 66 58))
theorem vr_UL_end {s u : sx_S} {g g1 : rf_Gh} {AR AR1 : Nat → List Int} {yA yB : rf_Y} {P : (Int → rf_N) → Prop} {e p' p : Nat} (h : rf_UL s u g g1 e p') (hp : e + p' ≤ p) (k : vr_UL s u g g1 AR AR1 .leaf .leaf yA yB P) : vr_PU s u g AR 1 p P := by
  obtain ⟨⟨h1, h2, h3, h4, h5⟩, h6, ⟨h7, h8⟩, ⟨h9, h10⟩, h11, h12⟩ := h
  have a1 := rf_ar2 (D := rf_qu s - rf_qu u) hp
  obtain ⟨k1, k2, _, k4⟩ := k
  obtain ⟨q1, q2, q3⟩ := k4 trivial
  refine ⟨by omega, h1, h5, fun q => absurd q (by decide), fun _ => ⟨g1, AR1, h2, h3, h4, h6, ⟨h7, by omega⟩, ⟨h9, by omega⟩, h11, h12, k1, k2, fun _ => ⟨q1, fun th hT => q2 th hT rfl, fun th hS hp => ?_⟩⟩⟩
  obtain ⟨th', z1, z2, _⟩ := q3 th hS hp
  exact ⟨th', z1, z2⟩
/-- a part cannot be solved -/
theorem vr_UL_no {s u : sx_S} {g g1 : rf_Gh} {AR AR1 : Nat → List Int} {ja jb : Nat} {ka kb : Int × Int} {ua ub : Unit} {fa fb na nb : rf_N} {yA yB : rf_Y} {P : (Int → rf_N) → Prop} (h : vr_UL s u g g1 AR AR1 (.inner ja ka ua fa na) (.inner jb kb ub fb nb) yA yB P) (hN : vr_N (vr_S u g1 AR1) (vr_E AR1 (.inner ja ka ua fa na) yA (.inner jb kb ub fb nb) yB (u.1 66 58))) : vr_N (vr_S s g AR) P := fun th hS hp => by
  obtain ⟨th', q1, q2, q3⟩ := (h.2.2.2 trivial).2.2 th hS hp
  exact hN th' q1 ((vr_X_eq (fun m => (q1.1 m).1)).mp q3).1
/-- a part that solved nothing is forgotten -/
theorem vr_UL_b {s u t v : sx_S} {g g1 : rf_Gh} {AR AR1 : Nat → List Int} {ja jb : Nat} {ka kb : Int × Int} {ua ub : Unit} {fa fb na nb : rf_N} {yA yB : rf_Y} {P : (Int → rf_N) → Prop} {p' : Nat} {z : Int} (hIu : cx_I u) (hMu : rf_MI (u.1 66 71) (u.1 66 58) u g1) (h50 : s.1 66 50 ≤ u.1 66 50) (hE : rf_EX (u.1 66 71) (u.1 66 58) u v) (hv : v.2.1 111 = t.2.1 111 ∧ v.1 66 61 = t.1 66 61) (h58 : v.1 66 58 = u.1 66 58) (k : vr_PU u t g1 AR1 z p' (vr_E AR1 (.inner ja ka ua fa na) yA (.inner jb kb ub fb nb) yB (u.1 66 58))) (hz : z ≠ 0) (h70 : t.1 66 70 = u.1 66 70) (h : vr_UL s u g g1 AR AR1 (.inner ja ka ua fa na) (.inner jb kb ub fb nb) yA yB P) : vr_UL s v g g1 AR AR1 na nb yA yB P := by
  obtain ⟨h1, h2, ⟨h3, h4⟩, h5⟩ := h
  obtain ⟨_, _, _, _, k4⟩ := k
  obtain ⟨g', AR', j1, j2, j3, j4, j5, j6, j7, j8, j9, j10, j11⟩ := k4 hz
  have hn := j7 h70
  have hNv : rf_NC u v := ⟨hv.2.trans hn.1, fun j hj => by rw [hv.1]; exact hn.2 j hj⟩
  obtain ⟨q1, q2, q3⟩ := h5 trivial
  obtain ⟨_, y2, _⟩ := j11 trivial
  have e1 : ∀ th, vx_So (vr_S v g1 AR1) th ↔ vx_So (vr_S u g1 AR1) th := fun th => vr_So_NC hIu hE (rf_EG_refl _ _) hNv hMu h1 (fun _ _ => rfl)
  have e2 : ∀ th, vx_So (vr_S t g' AR') th ↔ vx_So (vr_S u g1 AR1) th := fun th => vr_So_NC hIu j2 j3 hn hMu h1 j10
  refine ⟨vr_G_up hE (rf_EG_refl _ _) hNv (fun _ _ => rfl) h1, h2, ⟨(vr_t_up hE (fun _ _ => rfl)).2 h3.2, (vr_t_up hE (fun _ _ => rfl)).2 h4.2⟩, fun _ => ⟨vx_le_trans q1 (vr_le hE (rf_EG_refl _ _) hMu (fun _ _ => rfl)), fun th hT hr => ?_, fun th hS hp => ?_⟩⟩
  · rw [h58] at hr
    have hu := (e1 th).mp hT
    exact q2 th hu ((vr_X_eq (fun m => (hu.1 m).1)).mpr ⟨y2 th ((e2 th).mpr hu), hr⟩)
  · obtain ⟨th', z1, z2, z3⟩ := q3 th hS hp
    rw [h58]
    exact ⟨th', (e1 th').mpr z1, z2, ((vr_X_eq (fun m => (z1.1 m).1)).mp z3).2⟩
/-- a part that solved something -/
theorem vr_UL_n {s u t : sx_S} {g g1 g2 : rf_Gh} {AR AR1 AR2 : Nat → List Int} {ja jb : Nat} {ka kb : Int × Int} {ua ub : Unit} {fa fb na nb : rf_N} {yA yB : rf_Y} {P : (Int → rf_N) → Prop} (hIu : cx_I u) (h50 : s.1 66 50 ≤ u.1 66 50) (hE : rf_EX (u.1 66 71) (u.1 66 58) u t) (h58 : u.1 66 58 ≤ t.1 66 58) (hG2 : vr_G t g2 AR2) (hA : ∀ j : Nat, (j : Int) < u.1 66 50 → AR2 j = AR1 j) (hY : vr_Y (vr_S u g1 AR1) (vr_S t g2 AR2) (vr_E AR1 (.inner ja ka ua fa na) yA (.inner jb kb ub fb nb) yB (u.1 66 58))) (hra : ∀ z, vx_fv (fun _ _ => True) AR1 z (vr_c na) → 0 ≤ rf_look yA z ∧ rf_look yA z < u.1 66 58) (hrb : ∀ z, vx_fv (fun _ _ => True) AR1 z (vr_c nb) → 0 ≤ rf_look yB z ∧ rf_look yB z < u.1 66 58) (h : vr_UL s u g g1 AR AR1 (.inner ja ka ua fa na) (.inner jb kb ub fb nb) yA yB P) : vr_UL s t g g2 AR AR2 na nb yA yB P := by
  obtain ⟨h1, h2, ⟨h3, h4⟩, h5⟩ := h
  obtain ⟨q1, q2, q3⟩ := h5 trivial
  obtain ⟨y1, y2, y3⟩ := hY trivial
  have ra : ∀ z, vx_fv (fun _ _ => True) AR1 z (vr_c na) → rf_look yA z < u.1 66 58 ∧ rf_look yA z < t.1 66 58 := fun z hz => by
    have := hra z hz
    omega
  have rb : ∀ z, vx_fv (fun _ _ => True) AR1 z (vr_c nb) → rf_look yB z < u.1 66 58 ∧ rf_look yB z < t.1 66 58 := fun z hz => by
    have := hrb z hz
    omega
  have eX : ∀ th L, (vr_XE AR2 na yA nb yB L th ↔ vr_XE AR1 na yA nb yB L th) := fun th L => by
    unfold vr_XE
    rw [(vr_V_up hIu hA).2 h3.2, (vr_V_up hIu hA).2 h4.2]
  refine ⟨hG2, fun j hj => (hA j (by omega)).trans (h2 j hj), ⟨(vr_t_up hE hA).2 h3.2, (vr_t_up hE hA).2 h4.2⟩, fun _ => ⟨vx_le_trans q1 y1, fun th hT hr => ?_, fun th hS hp => ?_⟩⟩
  · have hu := vx_So_le (vr_W hIu h1) y1 hT
    have hr1 := (eX th _).mp hr
    have hr2 : vr_XE AR1 na yA nb yB (u.1 66 58) th := vr_shE hu.1 (L := t.1 66 58) (fun z hz => (ra z hz).symm) (fun z hz => (rb z hz).symm) hr1
    exact q2 th hu ((vr_X_eq (fun m => (hu.1 m).1)).mpr ⟨y2 th hT, hr2⟩)
  · obtain ⟨th', z1, z2, z3⟩ := q3 th hS hp
    obtain ⟨w1, w2⟩ := (vr_X_eq (fun m => (z1.1 m).1)).mp z3
    obtain ⟨th2, x1, x2⟩ := y3 th' z1 w1
    refine ⟨th2, x1, vr_ag_tr q1.1.1 z2 x2, (eX th2 _).mpr ?_⟩
    have w3 : vr_XE AR1 na yA nb yB (u.1 66 58) th2 := by
      unfold vr_XE
      rw [(vr_V_ag hIu x2).2 h3.2, (vr_V_ag hIu x2).2 h4.2]
      exact w2
    exact vr_shE x1.1 (L := u.1 66 58) ra rb w3
/-- under way to two heads, \ or open unknowns -/
def vr_U2 (s u : sx_S) (g : rf_Gh) (AR : Nat → List Int) (P : (Int → rf_N) → Prop) (x : rf_T) (pa0 pb0 : Nat) (NA NB : Int → rf_T → Prop) (A B : rf_N) (yA yB : rf_Y) (WA WB : List Nat) (pa pb : Nat) (x5 x6 x7 x8 : Int) : Prop := rf_U2 s u g x pa0 pb0 NA NB A B yA yB WA WB pa pb x5 x6 x7 x8 ∧ (vr_t u AR A ∧ vr_t u AR B) ∧ ∀ th, vx_So (vr_S s g AR) th → (vr_E AR A yA B yB (s.1 66 58) th ↔ P th)
def vr_UT (sL : Nat) (sx : Nat → Int32) (P d : Nat) : Prop := ∀ (NA NB : Int → rf_T → Prop) (A B : rf_N) (yA yB : rf_Y) (x : rf_T) (WA WB : List Nat) (pa pb : Nat) (a ba b bb : Int) (s : sx_S) (g : rf_Gh) (AR : Nat → List Int) (K : Int → sx_S → Prop), cx_I s → rf_MI (s.1 66 71) (s.1 66 58) s g → rf_ph s g ≤ 1150 → rf_RM 0 s → vr_G s g AR → vr_t s AR A → vr_t s AR B → rf_CL s g NA A yA x WA pa a ba → rf_CL s g NB B yB x WB pb b bb → pa ≤ P → pb ≤ P → s.1 66 71 + (((rf_qu s + 1) * (pa + pb) : Nat) : Int) ≤ 390000 → s.1 66 58 + (((rf_qu s + 1) * (pa + pb) : Nat) : Int) ≤ 390000 → (∀ z t, vr_PU s t g AR z (pa + pb) (vr_E AR A yA B yB (s.1 66 58)) → K z t) → sx_C sL sx d 194 [.inr (.inl 66), .inl a, .inl ba, .inl b, .inl bb] s K
theorem vr_en_C {sL : Nat} {sx : Nat → Int32} (hsL : sL ≤ 3072) {d : Nat} (hd : 104 ≤ d) {N : Int → rf_T → Prop} {A : rf_N} {y : rf_Y} {x : rf_T} {W : List Nat} {p : Nat} {i b nb ib : Int} {s : sx_S} {g : rf_Gh} {AR : Nat → List Int} {K : Int → sx_S → Prop} (hI : cx_I s) (hV : vr_G s g AR) (tA : vr_t s AR A) (hM : rf_MI nb ib s g) (hnb : nb ≤ s.1 66 71) (hib : ib ≤ s.1 66 58) (hph : rf_ph s g ≤ 1150) (h70 : s.1 66 70 ≤ 100) (k : rf_CL s g N A y x W p i b) (h3 : s.2.1 100 i.toNat = 3) (hs : s.2.1 111 (s.2.1 101 i.toNat).toNat ≠ 0) (h71 : s.1 66 71 ≤ 399980) (hK : ∀ z t, cx_I t → cx_F [(66, 66), (115, 117)] s t → rf_f [71] s t → rf_ag 115 117 (s.1 66 71) s t → (s.1 66 71 ≤ t.1 66 71 ∧ t.1 66 71 ≤ s.1 66 71 + 5) → x = .leaf → 5 ≤ p → (∃ (N' : Int → rf_T → Prop) (A' : rf_N) (y' : rf_Y) (W' : List Nat), rf_CL t g N' A' y' .leaf W' (p - 5) (t.2.1 113 (s.2.1 101 i.toNat).toNat) z ∧ vr_t t AR A' ∧ ∀ th, vx_So (vr_S s g AR) th → ∀ L, vr_V th AR A y L = vr_V th AR A' y' L) → K z t) : sx_C sL sx d 188 [.inr (.inl 66), .inl i, .inl b] s K := by
  have pA := rf_CL_b hI k
  obtain ⟨hr, hbn, hx, j, kk, uu, f, n, eA, ej, k3, ek⟩ := rf_CL_3 k h3
  subst eA
  rw [← ek] at hr hbn hs
  have kN := k.1.2.2.2
  have dY : rf_dp y ≤ 100 := by have := kN.2.2.2; omega
  have hSV := (hM.1 kk.2 hr.1 hr.2).2.2.2 hs
  obtain ⟨_, ⟨sb1, _⟩, ⟨⟨sc1, sc2⟩, sc3, _⟩, _⟩ := hSV
  have r61 := hI.fld 66 61 (by decide) rfl
  have r56 := hI.fld 66 56 (by decide) rfl
  have r108 := hI.arr 108 (by decide) rfl kk.2.toNat
  have raa : rf_aa s kk.2 = s.2.1 108 kk.2.toNat := rfl
  refine c_r_enter hsL 100 d (by omega) y (g.2.1 kk.2) i b kk.2 s K hI pA ek (by omega) h71 (fun q hq => ?_) dY kN.1 (rf_by_mono (fun _ _ => ⟨rfl, rfl, rfl⟩) hnb sb1) (fun z t c1 c2 c3 c4 c5 c6 => ?_)
  · refine ⟨by omega, by omega, ?_⟩
    have := sc3 q (by omega)
    unfold rf_fm at this
    rcases this with ⟨T, _, t2⟩ | z
    · have := t2.1.1
      omega
    · omega
  · obtain ⟨hE, _⟩ := rf_EX_name (ib := s.1 66 58) c2 c3 c4
    obtain ⟨e1, e2, e3⟩ := rf_CL_en (t := t) (z := z) hM hib hph k k3 hs hE c5.1 (c3 58 rfl) c6
    have e4 : s.2.1 113 kk.2.toNat = t.2.1 113 (s.2.1 101 i.toNat).toNat := by rw [(c2.same 113 rfl).2, ← ek]
    rw [e4] at e3
    have hvp : vr_p s AR j kk.2 := by
      rcases tA.2 with ⟨q, _⟩ | ⟨_, q⟩ | ⟨q, _⟩
      · omega
      · exact q
      · omega
    exact hK z t c1 c2 c3 c4 (by omega) hx e2 ⟨_, _, _, _, e3, (vr_t_up hE (fun _ _ => rfl)).1 (hV kk.2 hr.1 hr.2 hs), fun th hS L => vr_V_en hI hM hS k3 hvp hs ej⟩
theorem vr_ut_lam {sL : Nat} {sx : Nat → Int32} {P d : Nat} (ih : vr_UT sL sx P d) {NA NB : Int → rf_T → Prop} {ja jb : Nat} {ka kb : Int × Int} {ua ub : Unit} {fa na fb nb : rf_N} {yA yB : rf_Y} {C D : rf_T} {WA WB : List Nat} {pa pb : Nat} {a ba b bb v z2 z3 : Int} {u t1 t2 t3 : sx_S} {g : rf_Gh} {AR : Nat → List Int} {K : Int → sx_S → Prop} (hI : cx_I u) (hM : rf_MI (u.1 66 71) (u.1 66 58) u g) (hph : rf_ph u g ≤ 1150) (hR : rf_RM 0 u) (hV : vr_G u g AR) (tA : vr_t u AR (.inner ja ka ua fa na)) (tB : vr_t u AR (.inner jb kb ub fb nb)) (kA : rf_CL u g NA (.inner ja ka ua fa na) yA (rf_a C D) WA pa a ba) (kB : rf_CL u g NB (.inner jb kb ub fb nb) yB (rf_a C D) WB pb b bb) (ha0 : ka.1 = 0) (hb0 : kb.1 = 0) (hpa : pa ≤ P + 1) (hpb : pb ≤ P + 1) (h71 : u.1 66 71 + (((rf_qu u + 1) * (pa + pb) : Nat) : Int) ≤ 390000) (h58 : u.1 66 58 + (((rf_qu u + 1) * (pa + pb) : Nat) : Int) ≤ 390000) (a1 : cx_I t3) (v2 : cx_F [(66, 66), (106, 106)] u t1) (v3 : v = u.1 66 58) (v4 : t1.1 66 58 = u.1 66 58 + 1) (v5 : rf_f [58] u t1) (v6 : rf_ag 106 106 (u.1 66 58) u t1) (v7 : t1.2.1 106 v.toNat = u.2.1 106 ka.2.toNat) (n2 : cx_F [(66, 66), (115, 117)] t1 t2) (n3 : z2 = t1.1 66 71) (n4 : t2.1 66 71 = t1.1 66 71 + 1) (n5 : rf_f [71] t1 t2) (n6 : rf_ag 115 117 (t1.1 66 71) t1 t2) (n7 : rf_nm t2 z2 ka.2 v ba) (m2 : cx_F [(66, 66), (115, 117)] t2 t3) (m3 : z3 = t2.1 66 71) (m4 : t3.1 66 71 = t2.1 66 71 + 1) (m5 : rf_f [71] t2 t3) (m6 : rf_ag 115 117 (t2.1 66 71) t2 t3) (m7 : rf_nm t3 z3 kb.2 v bb) (hK : ∀ z t, vr_PU u t g AR z (pa + pb) (vr_E AR (.inner ja ka ua fa na) yA (.inner jb kb ub fb nb) yB (u.1 66 58)) → K z t) : sx_C sL sx d 194 [.inr (.inl 66), .inl (u.2.1 102 ja), .inl z2, .inl (u.2.1 102 jb), .inl z3] t3 K := by
  have r58 := hI.fld 66 58 (by decide) rfl
  have r71 := hI.fld 66 71 (by decide) rfl
  have e71 := v5 71 rfl
  have f58 := n5 58 rfl
  have g58 := m5 58 rfl
  obtain ⟨hE1, hF1⟩ := rf_EX_var (nb := u.1 66 71) v2 v5 v6 (by omega)
  obtain ⟨hE2, hF2⟩ := rf_EX_name (ib := u.1 66 58) n2 n5 n6
  obtain ⟨hE3, hF3⟩ := rf_EX_name (ib := u.1 66 58) m2 m5 m6
  have hE : rf_EX (u.1 66 71) (u.1 66 58) u t3 := rf_EX_trans hE3 (rf_EX_trans hE2 hE1 (by omega) (Int.le_refl _)) (by omega) (Int.le_refl _)
  have hF := rf_FS_trans hF3 (rf_FS_trans hF2 hF1)
  have c1 : rf_NC u t1 := rf_NC_F v2 rfl v5 rfl
  have c2 : rf_NC t1 t2 := rf_NC_F n2 rfl n5 rfl
  have c3 : rf_NC t2 t3 := rf_NC_F m2 rfl m5 rfl
  have hN : rf_NC u t3 := ⟨c3.1.trans (c2.1.trans c1.1), fun q hq => (c3.2 q (by have := c1.1; have := c2.1; omega)).trans ((c2.2 q (by have := c1.1; omega)).trans (c1.2 q hq))⟩
  have hpA := rf_wy_pos kA.2.2.2 hph
  have hpB := rf_wy_pos kB.2.2.2 hph
  have hwA := rf_wh_pos (j := ja) (k := ka) (u := ua) (f := fa) (x := na)
  have hwB := rf_wh_pos (j := jb) (k := kb) (u := ub) (f := fb) (x := nb)
  have t106 : ∀ q, t3.2.1 106 q = t1.2.1 106 q := fun q => by rw [(m2.same 106 rfl).2, (n2.same 106 rfl).2]
  have nm2 : rf_nm t3 z2 ka.2 v ba := fun _ => by
    obtain ⟨q1, q2, q3⟩ := n7 trivial
    exact ⟨by rw [m6 115 _ (by omega) (by omega) (by omega)]; exact q1, by rw [m6 116 _ (by omega) (by omega) (by omega)]; exact q2, by rw [m6 117 _ (by omega) (by omega) (by omega)]; exact q3⟩
  -- both variables have one type
  have tyA : rf_vb (u.1 66 58) u ka.2 C := by
    rcases kA.1.2.1 with ⟨_, C', D', q, h2, _⟩ | ⟨q, _⟩
    · cases q
      exact rf_Hn_02 h2 (Or.inl ha0)
    · exact absurd ha0 q
  have klA := rf_CL_lam (t := t3) (z := z2) (v := v) hM.ub kA ha0 hE (by omega) (by omega) v3 r58.1 (by rw [t106]; exact v7) (by omega) nm2
  have klB : rf_CL t3 g NB fb (rf_one kb.2 v yB) D WB (pb - 1) (u.2.1 102 jb) z3 := by
    have kc := kB
    obtain ⟨⟨b1, b2, b3, b4⟩, ⟨d1, d2⟩, d3, d4⟩ := kB
    have hft := rf_fo_typed hM.ub b1 b2 b4
    obtain ⟨⟨m0, m1⟩, ⟨m2', m3'⟩, m4', m5'⟩ := b1
    rcases b2 with ⟨e, C', D', q1, q2, q3⟩ | ⟨e, _⟩
    · cases q1
      have q2v := rf_Hn_02 q2 (Or.inl e)
      have vt : rf_vb (t3.1 66 58) t3 kb.2 C := rf_vb_le (by omega) ((hE.vb (Int.le_refl _) _ _).mpr q2v)
      have vv : rf_vb (t3.1 66 58) t3 v C := by
        refine ⟨⟨by omega, by omega⟩, ?_⟩
        rw [t106, v7]
        exact (hE.is _ _).mpr tyA.2
      have hwh := rf_wh_0 (j := jb) (u := ub) (f := fb) (x := nb) hb0
      have hbn := (rf_bn_gn m4').1 _ q3
      have hU : ∀ r q, 0 ≤ r → r < u.1 66 61 → g.2.2 r q → g.2.2 r q ∧ (q : Int) < rf_aa u r := fun r q r0 r1 hq => ⟨hq, hM.ub r q r0 r1 hq⟩
      have hN0 : ∀ v T, ¬ NB v T := b3.2.elim (fun z => by have : kb.1 = 3 := z; omega) id
      refine ⟨⟨hE.no m4', (rf_gn_up hE (by omega) (fun _ _ z => z) m4').1 _ q3, ⟨b3.1, Or.inr hN0⟩, rf_NM_one b3.1 (by omega) m7 vt vv (rf_NM_up hE (by omega) (by omega) b4)⟩, ⟨(rf_di_up hE hU).1 hbn (d1.2.1 hb0), ?_⟩, by omega, rf_wy_le (fun z hz => Or.inr (Or.inl ⟨hb0, hz⟩)) (by omega) (rf_wy_up hE (rf_EG_refl u g) d4)⟩
      refine rf_ij_one (F := (rf_fo (rf_Wd u g.2.2) (.inner jb kb ub fb nb)).1) (fun w hw hne => Or.inr (Or.inl ⟨hb0, hne, (rf_Wd_up hE hU).1 hbn w hw⟩)) (fun w hw e => ?_) d2
      obtain ⟨T, hT⟩ := hft w hw
      have := hT.1.2
      omega
    · exact absurd hb0 e
  have hqu := rf_NC_qu hE hN
  have e50 := v5 50 rfl
  have e56 := v5 56 rfl
  have e64 := v5 64 rfl
  have e70 := v5 70 rfl
  have g50 := n5 50 rfl
  have g56 := n5 56 rfl
  have g64 := n5 64 rfl
  have g70 := n5 70 rfl
  have i50 := m5 50 rfl
  have i56 := m5 56 rfl
  have i64 := m5 64 rfl
  have i70 := m5 70 rfl
  have ta : vr_t u AR fa := by
    rcases tA.2 with ⟨_, q⟩ | ⟨q, _⟩ | ⟨q, _⟩
    · exact q
    · omega
    · omega
  have tb : vr_t u AR fb := by
    rcases tB.2 with ⟨_, q⟩ | ⟨q, _⟩ | ⟨q, _⟩
    · exact q
    · omega
    · omega
  refine ih NA NB fa fb _ _ D WA WB (pa - 1) (pb - 1) _ _ _ _ t3 g AR K a1 (rf_NC_MI hE hN (by omega) (by omega) hM) (by rw [rf_NC_ph hE hN]; exact hph) (rf_RM_same hR (by omega) (by omega) hN.1 (by omega) (by omega) hqu) (vr_G_up hE (rf_EG_refl _ _) hN (fun _ _ => rfl) hV) ((vr_t_up hE (fun _ _ => rfl)).1 ta) ((vr_t_up hE (fun _ _ => rfl)).1 tb) klA klB (by omega) (by omega) (by rw [hqu]; exact rf_bud h71 (by omega) (by omega)) (by rw [hqu]; exact rf_bud h58 (by omega) (by omega)) (fun z t ht => hK z t (vr_PU_pre hI hM hV (by omega) (fun th hS => ?_) hE hN hF (by omega) ⟨by omega, by omega⟩ ⟨by omega, by omega⟩ ht))
  unfold vr_E
  rw [vr_V_lam ha0, vr_V_lam hb0, show t3.1 66 58 = u.1 66 58 + 1 by omega, v3]
  constructor
  · intro q
    rw [q]
  · intro q
    exact (vx_n_eq q).2.2.1
end
