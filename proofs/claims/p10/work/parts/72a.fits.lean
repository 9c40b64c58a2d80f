/-! ===== the reference: fits, and the solutions ===== -/
/-- what fits leaves -/
def vr_PF (nb mark : Int) (s t : sx_S) (g : rf_Gh) (AR : Nat → List Int) (z m row : Int) (A : rf_N) (y : rf_Y) (W : List Nat) : Prop := (0 ≤ z ∧ z ≤ 1) ∧ cx_I t ∧ rf_FS s t ∧ (z = 0 → vr_N (vr_S s g AR) (vr_K (rf_gv s m row mark) m AR A y (s.1 66 58))) ∧ (z ≠ 0 → ∃ (g' : rf_Gh) (AR' : Nat → List Int), rf_MI nb mark t g' ∧ rf_EX (s.1 66 71) (s.1 66 58) s t ∧ rf_EG s g g' ∧ (rf_ph t g' ≤ 1150 ∧ rf_RM 4 t ∧ rf_qu t ≤ rf_qu s) ∧ (s.1 66 71 ≤ t.1 66 71 ∧ s.1 66 58 ≤ t.1 66 58) ∧ t.2.1 111 m.toNat = 0 ∧ (∀ v, (rf_fo (rf_Wd t g'.2.2) A).1 v → rf_gv s m row mark (rf_look y v)) ∧ (∀ x, (rf_oc A).1 x → x ≠ m ∧ ¬ rf_rc (rf_Ed t g') x m) ∧ rf_clo t g' W m ∧ (∀ x, rf_rc (rf_Ed t g') x m → rf_rc (rf_Ed s g) x m) ∧ vr_G t g' AR' ∧ (∀ j : Nat, (j : Int) < s.1 66 50 → AR' j = AR j) ∧ vr_Z (vr_S s g AR) (vr_S t g' AR') (vr_K (rf_gv s m row mark) m AR A y (s.1 66 58)))
theorem vr_PF_same {nb mark : Int} {s : sx_S} {g : rf_Gh} {AR : Nat → List Int} {m row : Int} {A : rf_N} {y : rf_Y} {W : List Nat} (hI : cx_I s) (hM : rf_MI nb mark s g) (hp : rf_ph s g ≤ 1150) (hR : rf_RM 4 s) (hV : vr_G s g AR) (ho : s.2.1 111 m.toNat = 0) (hf : ∀ v, (rf_fo (rf_Wd s g.2.2) A).1 v → rf_gv s m row mark (rf_look y v)) (hx : ∀ x, (rf_oc A).1 x → x ≠ m ∧ ¬ rf_rc (rf_Ed s g) x m) (hc : rf_clo s g W m) : vr_PF nb mark s s g AR 1 m row A y W := ⟨by omega, hI, rf_FS_refl s, fun q => absurd q (by decide), fun _ => ⟨g, AR, hM, rf_EX_refl _ _ _, rf_EG_refl _ _, ⟨hp, hR, Nat.le_refl _⟩, ⟨Int.le_refl _, Int.le_refl _⟩, ho, hf, hx, hc, fun _ h => h, hV, fun _ _ => rfl, vr_Z_refl⟩⟩
theorem vr_PF_0 {nb mark : Int} {s t : sx_S} {g : rf_Gh} {AR : Nat → List Int} {m row : Int} {A : rf_N} {y : rf_Y} {W : List Nat} (hI : cx_I t) (hF : rf_FS s t) (hN : vr_N (vr_S s g AR) (vr_K (rf_gv s m row mark) m AR A y (s.1 66 58))) : vr_PF nb mark s t g AR 0 m row A y W := ⟨by omega, hI, hF, fun _ => hN, fun q => absurd rfl q⟩
theorem vr_K_al {al al' : Int → Prop} (ha : ∀ w, al w → al' w) {m : Int} {AR : Nat → List Int} {A : rf_N} {y : rf_Y} {L : Int} {th : Int → rf_N} (k : vr_K al m AR A y L th) : vr_K al' m AR A y L th := ⟨fun w hw => ha w (k.1 w hw), k.2⟩
theorem vr_PF_pre {nb mark : Int} {s s1 t : sx_S} {g : rf_Gh} {AR : Nat → List Int} {z m row : Int} {A A1 : rf_N} {y y1 : rf_Y} {W W1 : List Nat} (hE : rf_EX (s.1 66 71) (s.1 66 58) s s1) (hN : rf_NC s s1) (hF : rf_FS s s1) (hn : s.1 66 71 ≤ s1.1 66 71) (hi : s.1 66 58 ≤ s1.1 66 58) (h50 : s1.1 66 50 = s.1 66 50) (hMI : rf_MI nb mark s g) (hnb : nb ≤ s.1 66 71) (hmk : mark ≤ s.1 66 58) (hm : 0 ≤ m ∧ m < s.1 66 61) (hrow : 0 ≤ row ∧ row + rf_aa s m ≤ s.1 66 56) (hKK : ∀ th, vx_So (vr_S s g AR) th → vr_K (rf_gv s m row mark) m AR A y (s.1 66 58) th → vr_K (rf_gv s m row mark) m AR A1 y1 (s1.1 66 58) th) (h : vr_PF nb mark s1 t g AR z m row A1 y1 W1) (hc : ∀ g' : rf_Gh, rf_MI nb mark t g' → rf_EX (s.1 66 71) (s.1 66 58) s t → rf_EG s g g' → (∀ v, (rf_fo (rf_Wd t g'.2.2) A1).1 v → rf_gv s m row mark (rf_look y1 v)) → (∀ x, (rf_oc A1).1 x → x ≠ m ∧ ¬ rf_rc (rf_Ed t g') x m) → rf_clo t g' W1 m → (∀ x, rf_rc (rf_Ed t g') x m → rf_rc (rf_Ed s g) x m) → ∃ g2 : rf_Gh, rf_MI nb mark t g2 ∧ g2.1 = g'.1 ∧ rf_EG t g' g2 ∧ (∀ v, (rf_fo (rf_Wd t g2.2.2) A).1 v → rf_gv s m row mark (rf_look y v)) ∧ (∀ x, (rf_oc A).1 x → x ≠ m ∧ ¬ rf_rc (rf_Ed t g') x m) ∧ rf_clo t g' W m) : vr_PF nb mark s t g AR z m row A y W := by
  obtain ⟨h1, h2, h3, h0, h4⟩ := h
  have eS : vr_S s1 g AR = vr_S s g AR := vr_S_NC (rf_EX_le hE hnb hmk) hN h50 hMI
  have hKK2 : ∀ th, vx_So (vr_S s g AR) th → vr_K (rf_gv s m row mark) m AR A y (s.1 66 58) th → vr_K (rf_gv s1 m row mark) m AR A1 y1 (s1.1 66 58) th := fun th hS k => vr_K_al (fun w hw => (rf_gv_up hE hm hrow).mpr hw) (hKK th hS k)
  refine ⟨h1, h2, rf_FS_trans h3 hF, fun hz => ?_, fun hz => ?_⟩
  · have := h0 hz
    rw [eS] at this
    exact vr_N_cg hKK2 this
  obtain ⟨g', AR', k1, k2, k3, ⟨k4, k5, k6⟩, ⟨k7, k8⟩, k9, k10, k11, k12, k13, k14, k15, k16⟩ := h4 hz
  have hE2 := rf_EX_trans k2 hE hn hi
  have hG := rf_EG_trans hE k3 (rf_EG_refl s g)
  have hback : ∀ x, rf_rc (rf_Ed t g') x m → rf_rc (rf_Ed s g) x m := fun x q => (rf_rc_NC hN).mp (k13 x q)
  obtain ⟨g2, j1, j2, j3, j4, j5, j6⟩ := hc g' k1 hE2 hG (fun v hv => (rf_gv_up hE hm hrow).mp (k10 v hv)) k11 k12 hback
  have eEd : rf_Ed t g2 = rf_Ed t g' := by
    funext a b
    unfold rf_Ed
    rw [j2]
  have ephi : rf_ph t g2 = rf_ph t g' := rf_ph_same rfl (fun _ _ => ⟨rfl, rfl⟩) (fun j _ _ => by rw [j2])
  have hq := rf_NC_qu hE hN
  refine ⟨g2, AR', j1, hE2, rf_EG_trans hE2 j3 hG, ⟨by omega, k5, by omega⟩, ⟨by omega, by omega⟩, k9, j4, fun x hx => by rw [eEd]; exact j5 x hx, ?_, fun x q => by rw [eEd] at q; exact hback x q, fun x x0 x1 x2 => by rw [j2]; exact k14 x x0 x1 x2, fun j hj => k15 j (by omega), ?_⟩
  · intro x hx q
    rw [eEd]
    exact j6 x hx q
  · rw [vr_S_EG j3]
    rw [eS] at k16
    exact vr_Z_cg hKK2 k16
def vr_FT (sL : Nat) (sx : Nat → Int32) (P d : Nat) : Prop := ∀ (N : Int → rf_T → Prop) (A : rf_N) (y : rf_Y) (x : rf_T) (W : List Nat) (p : Nat) (i b m row mark nb : Int) (s : sx_S) (g : rf_Gh) (AR : Nat → List Int) (K : Int → sx_S → Prop), cx_I s → rf_MI nb mark s g → nb ≤ s.1 66 71 → (0 ≤ mark ∧ mark ≤ s.1 66 58) → rf_ph s g ≤ 1150 → rf_RM 4 s → vr_G s g AR → vr_t s AR A → rf_CL s g N A y x W p i b → p ≤ P → (0 ≤ m ∧ m < s.1 66 61) → s.2.1 111 m.toNat = 0 → (0 ≤ row ∧ row + rf_aa s m ≤ s.1 66 56) → rf_clo s g W m → s.1 66 71 + (p : Int) ≤ 399900 → s.1 66 58 + (p : Int) ≤ 399900 → (∀ z t, vr_PF nb mark s t g AR z m row A y W → K z t) → sx_C sL sx d 200 [.inr (.inl 66), .inl i, .inl b, .inl m, .inl row, .inl mark] s K
/-- under a \ -/
theorem vr_ft_lam {sL : Nat} {sx : Nat → Int32} {P d : Nat} (ih : vr_FT sL sx P d) {N : Int → rf_T → Prop} {j : Nat} {kk : Int × Int} {uu : Unit} {f n : rf_N} {y : rf_Y} {x : rf_T} {W : List Nat} {p : Nat} {i b m row mark nb v z : Int} {s t1 t2 : sx_S} {g : rf_Gh} {AR : Nat → List Int} {K : Int → sx_S → Prop} (hI : cx_I s) (hM : rf_MI nb mark s g) (hnb : nb ≤ s.1 66 71) (hmk : 0 ≤ mark ∧ mark ≤ s.1 66 58) (hph : rf_ph s g ≤ 1150) (hR : rf_RM 4 s) (hV : vr_G s g AR) (tA : vr_t s AR (.inner j kk uu f n)) (k : rf_CL s g N (.inner j kk uu f n) y x W p i b) (hp : p ≤ P + 1) (hm : 0 ≤ m ∧ m < s.1 66 61) (ho : s.2.1 111 m.toNat = 0) (hrow : 0 ≤ row ∧ row + rf_aa s m ≤ s.1 66 56) (hc : rf_clo s g W m) (h71 : s.1 66 71 + (p : Int) ≤ 399900) (h58 : s.1 66 58 + (p : Int) ≤ 399900) (k0 : kk.1 = 0) (a1 : cx_I t2) (v2 : cx_F [(66, 66), (106, 106)] s t1) (v3 : v = s.1 66 58) (v4 : t1.1 66 58 = s.1 66 58 + 1) (v5 : rf_f [58] s t1) (v6 : rf_ag 106 106 (s.1 66 58) s t1) (v7 : t1.2.1 106 v.toNat = s.2.1 106 kk.2.toNat) (n2 : cx_F [(66, 66), (115, 117)] t1 t2) (n3 : z = t1.1 66 71) (n4 : t2.1 66 71 = t1.1 66 71 + 1) (n5 : rf_f [71] t1 t2) (n6 : rf_ag 115 117 (t1.1 66 71) t1 t2) (n7 : rf_nm t2 z kk.2 v b) (hK : ∀ z t, vr_PF nb mark s t g AR z m row (.inner j kk uu f n) y W → K z t) : sx_C sL sx d 200 [.inr (.inl 66), .inl (s.2.1 102 j), .inl z, .inl m, .inl row, .inl mark] t2 K := by
  have r58 := hI.fld 66 58 (by decide) rfl
  have r71 := hI.fld 66 71 (by decide) rfl
  have e71 := v5 71 rfl
  have f58 := n5 58 rfl
  obtain ⟨hE1, hF1⟩ := rf_EX_var (nb := s.1 66 71) v2 v5 v6 (by omega)
  obtain ⟨hE2, hF2⟩ := rf_EX_name (ib := s.1 66 58) n2 n5 n6
  have hE : rf_EX (s.1 66 71) (s.1 66 58) s t2 := rf_EX_trans hE2 hE1 (by omega) (Int.le_refl _)
  have hF := rf_FS_trans hF2 hF1
  have c1 : rf_NC s t1 := rf_NC_F v2 rfl v5 rfl
  have c2 : rf_NC t1 t2 := rf_NC_F n2 rfl n5 rfl
  have hN : rf_NC s t2 := ⟨c2.1.trans c1.1, fun q hq => (c2.2 q (by have := c1.1; omega)).trans (c1.2 q hq)⟩
  have hx : ∃ C D, x = rf_a C D := by
    rcases k.1.2.1 with ⟨_, C, D, q, _⟩ | ⟨q, _⟩
    · exact ⟨C, D, q⟩
    · exact absurd k0 q
  obtain ⟨C, D, rfl⟩ := hx
  have hpp := rf_wy_pos k.2.2.2 hph
  have hw1 := rf_wh_pos (j := j) (k := kk) (u := uu) (f := f) (x := n)
  have kl := rf_CL_lam (t := t2) (z := z) (v := v) hM.ub k k0 hE (by omega) (by omega) v3 r58.1 (by rw [(n2.same 106 rfl).2]; exact v7) (by omega) n7
  have hqu := rf_NC_qu hE hN
  have eaa := hE.aa hm.1 hm.2
  have e50 := v5 50 rfl
  have e56 := v5 56 rfl
  have e64 := v5 64 rfl
  have e70 := v5 70 rfl
  have g50 := n5 50 rfl
  have g56 := n5 56 rfl
  have g64 := n5 64 rfl
  have g70 := n5 70 rfl
  have e61 := hN.1
  have tf : vr_t s AR f := by
    rcases tA.2 with ⟨_, q⟩ | ⟨q, _⟩ | ⟨q, _⟩
    · exact q
    · omega
    · omega
  refine ih N f _ D W (p - 1) _ _ m row mark nb t2 g AR K a1 (rf_NC_MI (rf_EX_le hE hnb hmk.2) hN (Int.le_refl _) (Int.le_refl _) hM) (by omega) (by omega) (by rw [rf_NC_ph hE hN]; exact hph) (rf_RM_same hR (by omega) (by omega) hN.1 (by omega) (by omega) hqu) (vr_G_up hE (rf_EG_refl _ _) hN (fun _ _ => rfl) hV) ((vr_t_up hE (fun _ _ => rfl)).1 tf) kl (by omega) (by omega) (by rw [hN.2 _ (by omega)]; exact ho) (by omega) (rf_clo_NC hN (by rw [(n2.same 124 rfl).2, (v2.same 124 rfl).2]) hc) (by omega) (by omega) (fun zz t ht => hK zz t (vr_PF_pre hE hN hF (by omega) (by omega) (by omega) hM hnb hmk.2 hm hrow (fun th _ hk => by rw [show t2.1 66 58 = s.1 66 58 + 1 by omega, v3]; exact vr_K_lam k0 hk) ht (fun g' q1 q2 q3 q4 q5 q6 q7 => ⟨g', q1, rfl, rf_EG_refl _ _, fun w hw => ?_, fun w hw => ?_, q6⟩)))
  · rcases hw with ⟨c, _⟩ | ⟨_, hne, hw⟩ | ⟨c, _⟩
    · omega
    · have := q4 w hw
      have e : rf_look (rf_one kk.2 v y) w = rf_look y w := if_neg (fun c => hne c.symm)
      rw [e] at this
      exact this
    · omega
  · rcases hw with ⟨c, _⟩ | ⟨_, hw⟩ | ⟨c, _⟩
    · omega
    · exact q5 w hw
    · omega
