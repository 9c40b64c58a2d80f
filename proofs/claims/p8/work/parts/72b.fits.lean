/-! ===== the reference: fits, into a solved unknown ===== -/
theorem vr_ft_en {sL : Nat} {sx : Nat → Int32} {P d : Nat} (ih : vr_FT sL sx P d) {N : Int → rf_T → Prop} {j : Nat} {kk : Int × Int} {uu : Unit} {f n : rf_N} {y : rf_Y} {x : rf_T} {W : List Nat} {p : Nat} {i b m row mark nb z : Int} {s t1 : sx_S} {g : rf_Gh} {AR : Nat → List Int} {K : Int → sx_S → Prop} (hI : cx_I s) (hM : rf_MI nb mark s g) (hnb : nb ≤ s.1 66 71) (hmk : 0 ≤ mark ∧ mark ≤ s.1 66 58) (hph : rf_ph s g ≤ 1150) (hR : rf_RM 4 s) (hV : vr_G s g AR) (tA : vr_t s AR (.inner j kk uu f n)) (k : rf_CL s g N (.inner j kk uu f n) y x W p i b) (hp : p ≤ P + 1) (hm : 0 ≤ m ∧ m < s.1 66 61) (ho : s.2.1 111 m.toNat = 0) (hrow : 0 ≤ row ∧ row + rf_aa s m ≤ s.1 66 56) (hc : rf_clo s g W m) (h71 : s.1 66 71 + (p : Int) ≤ 399900) (h58 : s.1 66 58 + (p : Int) ≤ 399900) (k3 : kk.1 = 3) (hne : kk.2 ≠ m) (hs : s.2.1 111 kk.2.toNat ≠ 0) (a1 : cx_I t1) (n2 : cx_F [(66, 66), (115, 117)] (s.1, sx_ua s.2.1 124 kk.2.toNat 1, s.2.2) t1) (n5 : rf_f [71] s t1) (n6 : rf_ag 115 117 (s.1 66 71) s t1) (n4 : s.1 66 71 ≤ t1.1 66 71 ∧ t1.1 66 71 ≤ s.1 66 71 + s.2.1 108 kk.2.toNat + 1) (n7 : rf_bs t1 (rf_bh (g.2.1 kk.2) (rf_row (rf_fm s kk.2) (rf_vo s y i) (rf_aa s kk.2).toNat)) z) (hK : ∀ z t, vr_PF nb mark s t g AR z m row (.inner j kk uu f n) y W → K z t) : sx_C sL sx d 200 [.inr (.inl 66), .inl (s.2.1 113 kk.2.toNat), .inl z, .inl m, .inl row, .inl mark] t1 K := by
  have r58 := hI.fld 66 58 (by decide) rfl
  have e58 := n5 58 rfl
  have e61 := n5 61 rfl
  have r108 := hI.arr 108 (by decide) rfl kk.2.toNat
  obtain ⟨hE0, hF0⟩ := rf_EX_mark (nb := s.1 66 71) (ib := s.1 66 58) (s := s) (n := kk.2.toNat) (v := 1)
  obtain ⟨hE1, hF1⟩ := rf_EX_name (ib := s.1 66 58) n2 n5 (by
    intro q jj h1 h2 h3
    rw [n6 q jj h1 h2 h3]
    show _ = sx_ua s.2.1 124 kk.2.toNat 1 q jj
    rw [sx_ua_ne (by omega)])
  have hE : rf_EX (s.1 66 71) (s.1 66 58) s t1 := rf_EX_trans hE1 hE0 (Int.le_refl _) (Int.le_refl _)
  have hF := rf_FS_trans hF1 hF0
  have h111 : t1.2.1 111 = s.2.1 111 := by
    rw [(n2.same 111 rfl).2]
    show sx_ua s.2.1 124 kk.2.toNat 1 111 = _
    rw [sx_ua_ne (by decide)]
  have h124 : t1.2.1 124 = sx_ua s.2.1 124 kk.2.toNat 1 124 := (n2.same 124 rfl).2
  have hN : rf_NC s t1 := ⟨e61, fun q _ => by rw [h111]⟩
  obtain ⟨c1, c2, kc⟩ := rf_CL_en (t := t1) (z := z) hM hmk.2 hph k k3 hs hE n4.1 e58 n7
  obtain ⟨j0, kk0, uu0, f0, n0, eA, e1, e2, e3, e4, e5, e6, e7, e8⟩ := rf_CL_node k
  cases eA
  have hr : 0 ≤ kk.2 ∧ kk.2 < s.1 66 61 := by
    rcases e8 with ⟨c, _⟩ | ⟨c, hx, w, hw, _⟩
    · omega
    · exact (rf_Hn_3 hw k3).2.1
  have hbn : 0 ≤ s.2.1 104 j ∧ s.2.1 104 j + rf_aa s kk.2 ≤ s.1 66 56 := by
    rcases e8 with ⟨c, _⟩ | ⟨c, hx, w, hw, _⟩
    · omega
    · exact (rf_Hn_3 hw k3).2.2.1
  have hqu := rf_NC_qu hE hN
  have eaa := hE.aa hm.1 hm.2
  have hMX := hM.1 kk.2 hr.1 hr.2
  have hSV := hMX.2.2.2 hs
  have ekk : ((kk.2.toNat : Nat) : Int) = kk.2 := Int.toNat_of_nonneg hr.1
  have e50 := n5 50 rfl
  have e56 := n5 56 rfl
  have e64 := n5 64 rfl
  have e70 := n5 70 rfl
  have hvp : vr_p s AR j kk.2 := by
    rcases tA.2 with ⟨q, _⟩ | ⟨_, q⟩ | ⟨q, _⟩
    · omega
    · exact q
    · omega
  refine ih _ (g.1 kk.2) _ .leaf (kk.2.toNat :: W) (p - 5) _ _ m row mark nb t1 g AR K a1 (rf_NC_MI (rf_EX_le hE hnb hmk.2) hN (Int.le_refl _) (Int.le_refl _) hM) (by omega) (by omega) (by rw [rf_NC_ph hE hN]; exact hph) (rf_RM_same hR (by omega) (by omega) hN.1 (by omega) (by omega) hqu) (vr_G_up hE (rf_EG_refl _ _) hN (fun _ _ => rfl) hV) ((vr_t_up hE (fun _ _ => rfl)).1 (hV kk.2 hr.1 hr.2 hs)) kc (by omega) (by omega) (by rw [h111]; exact ho) (by omega) ?_ (by omega) (by omega) (fun zz t ht => hK zz t (vr_PF_pre hE hN hF (by omega) (by omega) e50 hM hnb hmk.2 hm hrow (fun th hS hk => by rw [e58]; refine vr_K_en ?_ (vr_V_en hI hM hS k3 hvp hs e2) hk; exact k3) ht (fun g' q1 q2 q3 q4 q5 q6 q7 => ?_)))
  · intro q hq hcl
    rw [e61] at hq
    rw [h124, sx_ua_same] at hcl
    dsimp only at hcl
    by_cases c : q = kk.2.toNat
    · exact Or.inl (by rw [c]; exact List.mem_cons_self)
    · rw [if_neg c] at hcl
      exact (hc q hq hcl).imp (fun z => List.mem_cons_of_mem _ z) (fun q z => q ((rf_rc_NC hN).mp z))
  · -- the body is done: fewer variables are used
    have hs2 : t.2.1 111 kk.2.toNat ≠ 0 := by
      rw [(((q2.2 kk.2.toNat).2.2.2.1 (by omega)).2.2 hs).1]
      exact hs
    have gB : g'.1 kk.2 = g.1 kk.2 := ((q3 kk.2 hr.1 hr.2).1 hs).1
    have gY : g'.2.1 kk.2 = g.2.1 kk.2 := ((q3 kk.2 hr.1 hr.2).1 hs).2
    have hnr : ¬ rf_rc (rf_Ed t g') kk.2 m := fun hrc => by
      obtain ⟨w, w1, w2⟩ := rf_rc_head hrc
      have w3 := w1.2.2
      rw [gB] at w3
      obtain ⟨w4, w5⟩ := q5 w w3
      rcases w2 with w2 | w2
      · exact w4 w2
      · exact w5 w2
    have hp2 : ∀ v, (rf_fo (rf_Wd t g'.2.2) (g'.1 kk.2)).1 v → ∀ q, g'.2.2 kk.2 q → rf_look (g'.2.1 kk.2) v = rf_fm t kk.2 q → rf_gv s m row mark (rf_look y (rf_rv1 s j q)) := by
      intro v hv q hq hl
      rw [gB] at hv
      rw [gY] at hl
      have hU := q3.ub hM.ub
      have hv2 := (rf_Wd_up q2 hU).1 ((rf_bn_gn hSV.1.1).1 _ hSV.1.2.1) v hv
      obtain ⟨q', u1, u2, u3⟩ := rf_en_look (y := y) (n := i) hMX hs hv2
      have hq2 := (hU kk.2 q hr.1 hr.2 hq).2
      have hq3 := hMX.2.1 q' u1
      obtain ⟨_, _, ⟨⟨f1, f2⟩, _, _, f5⟩, _⟩ := hSV
      rw [q2.fm hr.1 hr.2 hs f1 (by omega), u2] at hl
      have e := f5 q' q hq3 hq2 hl
      subst e
      have := q4 v hv
      rw [u3, e2] at this
      exact this
    have hsh := rf_MI_shr (g := g') (g' := (g'.1, g'.2.1, fun r q => g'.2.2 r q ∧ (r = kk.2 → rf_gv s m row mark (rf_look y (rf_rv1 s j q))))) (x := kk.2) (p := fun q => rf_gv s m row mark (rf_look y (rf_rv1 s j q))) hs2 rfl rfl (fun _ _ => Iff.rfl) hp2 q1
    refine ⟨_, hsh.1, rfl, hsh.2, fun v hv => ?_, fun w hw => ?_, fun q hq hcl => ?_⟩
    · rcases hv with ⟨_, q, w1, w2⟩ | ⟨c, _⟩ | ⟨c, _⟩
      · have hU := q3.ub hM.ub
        have hq2 := (hU kk.2 q hr.1 hr.2 w1.1).2
        rw [w2, q2.rv e3 hbn.1 (by omega)]
        exact w1.2 rfl
      · omega
      · omega
    · rcases hw with ⟨_, rfl⟩ | ⟨c, _⟩ | ⟨c, _⟩
      · exact ⟨hne, hnr⟩
      · omega
      · omega
    · rcases q6 q hq hcl with w | w
      · rcases List.mem_cons.mp w with w | w
        · refine Or.inr ?_
          rw [w, ekk]
          exact hnr
        · exact Or.inl w
      · exact Or.inr w
