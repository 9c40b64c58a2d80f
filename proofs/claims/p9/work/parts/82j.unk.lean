/-! ===== the reference: writeUnknown and number, with what they write ===== -/
section
variable {Ω : Type}
/-- other rows of nodes -/
def we_up (E : we_E Ω) (AR : Nat → List Int) : we_E Ω := (E.1, E.2.1, E.2.2.1, E.2.2.2.1, AR, E.2.2.2.2.2)
theorem we_G_ar {E : we_E Ω} (hL : we_L E) {nb ib : Int} {s t : sx_S} {g : rf_Gh} {AR : Nat → List Int} (hI : cx_I s) (hM : rf_MI nb ib s g) (hE : rf_EX nb ib s t) (hN : rf_NC s t) (hA : ∀ j : Nat, (j : Int) < s.1 66 50 → AR j = we_AR E j) (h58 : s.1 66 58 ≤ t.1 66 58) (hR : ∀ p, 68 ≤ p → p ≤ 99 → t.2.1 p = s.2.1 p) (e3 : t.1 66 3 = s.1 66 3) (h : we_G E s g) : we_G (we_up E AR) t g := fun _ => by
  obtain ⟨⟨h1, h2⟩, h3, h4, h5, h6, h7, h8⟩ := h trivial
  have e61 := hN.1
  have ea := we_ar hE hN
  refine ⟨⟨vr_G_up hE (rf_EG_refl s g) hN hA h1, (vr_So_NC hI hE (rf_EG_refl s g) hN hM h1 hA).mpr h2⟩, fun m m0 m1 hs => ?_, fun m m0 m1 => ?_, fun u m u0 u1 hs => ?_, fun m q m0 m1 hq => ?_, by omega, (hL trivial).2.2.2 s t hR e3 hE.1.1.2.2.2.2 h8⟩
  · rw [ea]
    exact h3 m m0 (by omega) (by rw [← hN.2 m.toNat (by omega)]; exact hs)
  · rw [ea, e61]
    exact h4 m m0 (by omega)
  · exact h5 u m u0 (by omega) (by rw [← hN.2 u.toNat (by omega)]; exact hs)
  · rw [hE.aa m0 (by omega)] at hq
    exact hE.pt m0 (by omega) (h6 m q m0 (by omega) hq)
theorem c_e_wunk {E : we_E Ω} (hL : we_L E) {sL : Nat} {sx : Nat → Int32} (hKE : we_K E sL sx) (hsL : sL ≤ 3072) (d : Nat) (hd : 1420 ≤ d) : ∀ (Z : we_A Ω) (P : Int → Prop) (k nb ib : Int) (s : sx_S) (g : rf_Gh) (K : Int → sx_S → Prop), rf_WW true nb ib s g → (0 ≤ k ∧ k < s.1 66 61) → s.1 66 50 ≤ 59940 → s.1 66 56 ≤ 119890 → s.1 66 71 + 1260 ≤ 399900 → s.1 66 58 + 1260 ≤ 399900 → we_G E s g → we_J E Z P s (we_th E k) (rf_n 0 3 k .leaf .leaf) ((we_W E (vq_lm (rf_aa s k).toNat (we_th E k))).1 0) → (∀ z t, rf_WU s t → we_Z E Z P t → K z t) → sx_C sL sx d 207 [.inr (.inl 66), .inl k] s K := by
  intro Z P k nb ib s g K hW hk h50 h56 h71 h58 hG hJ0 hK
  obtain ⟨kP, kN, kM, kA⟩ := hKE trivial
  obtain ⟨d, rfl⟩ : ∃ e, d = e + 2 := ⟨d - 2, by omega⟩
  obtain ⟨⟨hI, hM, hnb, hib, hph⟩, h70, h61, h9, h5056, hO⟩ := hW
  have r50 := hI.fld 66 50 (by decide) rfl
  have r56 := hI.fld 66 56 (by decide) rfl
  have r58 := hI.fld 66 58 (by decide) rfl
  have r71 := hI.fld 66 71 (by decide) rfl
  have r108 := hI.arr 108 (by decide) rfl k.toNat
  have hx := hM.1 k hk.1 hk.2
  have h109 : ∀ i : Int, 0 ≤ i → i < s.2.1 108 k.toNat → 0 ≤ s.2.1 109 k.toNat ∧ s.2.1 109 k.toNat + i ≤ 19999 := fun i hi hlt => by
    obtain ⟨T, hT⟩ := hx.1 i.toNat (by show ((i.toNat : Nat) : Int) < s.2.1 108 k.toNat; omega)
    have r64 := hI.fld 66 64 (by decide) rfl
    have := hT.1
    omega
  refine sx_methL (wr := true) (n := 400) (n' := 400) (stop := [(22, [0, 1, 2, 3, 4]), (74, [0, 1, 2, 3, 4, 5]), (90, [0, 2, 3])]) (fun ms pc ls u => (pc = 22 ∧ ∃ i : Int, ls = [(0, .inr (.inl 66)), (1, .inl k), (2, .inl (s.1 66 50)), (3, .inl i), (4, .inl i)] ∧ (0 ≤ i ∧ i ≤ s.2.1 108 k.toNat) ∧ rf_WJ s u k i ∧ we_J E Z P u (we_th E k) (rf_n 0 3 k .leaf .leaf) ((we_W E (vq_lm (s.2.1 108 k.toNat - i).toNat (we_th E k))).1 i) ∧ (ms : Int) = 20 - 2 * i) ∨ (pc = 74 ∧ ∃ (i v : Int) (u0 : sx_S), ls = [(0, .inr (.inl 66)), (1, .inl k), (2, .inl (s.1 66 50)), (3, .inl i), (4, .inl i), (5, .inl v)] ∧ (0 ≤ i ∧ i < s.2.1 108 k.toNat) ∧ rf_WJ s u0 k i ∧ rf_WX s u0 u k i v ∧ we_J E Z P u (we_th E k) (rf_n 0 3 k .leaf .leaf) ((we_W E (vq_lm (s.2.1 108 k.toNat - i).toNat (we_th E k))).1 i) ∧ (ms : Int) = 19 - 2 * i) ∨ (pc = 90 ∧ ls = [(0, .inr (.inl 66)), (2, .inl (s.1 66 50)), (3, .inl (s.2.1 108 k.toNat))] ∧ rf_WJ s u k (s.2.1 108 k.toNat) ∧ we_J E Z P u (we_th E k) (rf_n 0 3 k .leaf .leaf) ((we_W E (we_th E k)).1 (s.2.1 108 k.toNat)) ∧ ms = 0)) hsL (e := eX12_writeUnknown) rfl ?_ ?_
  · refine w_wunk (PM := fun z t => z = s.1 66 50 ∧ cx_I t ∧ (cx_F [(66, 66), (100, 103)] s t ∧ rf_f [50] s t) ∧ ∀ w : Int, w = t.1 66 56 → rf_WJ s (t.1, sx_ua t.2.1 104 z.toNat w, t.2.2) k 0) (fun K' hK' => c_r_make hsL (d + 1) (by omega) 3 k s K' hI (by omega) (by omega) (by omega) (fun z t c1 c2 c3 c4 c5 c6 c7 => hK' z t ⟨c3, c1, ⟨c2, c5⟩, fun w hw => rf_WJ_0 r50.1 c1 c2 c3 c4 c5 c6 c7 hw⟩)) (fun z t h => ⟨h.2.1, by omega⟩) (fun z t h w hw => ⟨20, Or.inl ⟨rfl, 0, ?_, by omega, h.2.2.2 w hw, ?_, by omega⟩⟩)
    · rw [h.1]
    · rw [show (s.2.1 108 k.toNat - 0).toNat = (rf_aa s k).toNat by unfold rf_aa; omega]
      exact we_J_same (u := t) (fun _ _ => rfl) (fun p hp => sx_ua_ne (by omega)) (we_J_F h.2.2.1.1 h.2.2.1.2 rfl rfl hJ0)
  · rintro ms pc ls u (⟨rfl, i, rfl, hi, hJ, hY, hms⟩ | ⟨rfl, i, v, u0, rfl, hi, hJ, hX, hY, hms⟩ | ⟨rfl, rfl, hJ, hY, rfl⟩)
    · have hJ0 := hJ
      obtain ⟨⟨a1, a2, a3⟩, ⟨a4, a5, a6⟩, _⟩ := hJ0
      have e108 : u.2.1 108 = s.2.1 108 := (a2.same 108 rfl).2
      have e109 : u.2.1 109 = s.2.1 109 := (a2.same 109 rfl).2
      have e110 : u.2.1 110 = s.2.1 110 := (a2.same 110 rfl).2
      refine w_wunk_22 (PV := fun z t => (cx_I t ∧ (0 ≤ t.1 66 56 ∧ t.1 66 56 ≤ 119990) ∧ (0 ≤ z ∧ z ≤ 399999)) ∧ ∀ m w : Int, m = t.1 66 56 → w = t.1 66 56 + 1 → rf_WX s u (sx_uf t.1 66 56 w, sx_ua t.2.1 105 m.toNat z, t.2.2) k i z ∧ we_J E Z P (sx_uf t.1 66 56 w, sx_ua t.2.1 105 m.toNat z, t.2.2) (we_th E k) (rf_n 0 3 k .leaf .leaf) ((we_W E (vq_lm (s.2.1 108 k.toNat - i).toNat (we_th E k))).1 i)) a1 (by omega) (by omega) (fun hlt => ?_) (fun hge => ⟨0, by omega, Or.inr (Or.inr ⟨rfl, ?_, ?_, ?_, rfl⟩)⟩) (fun hlt a ha K' hK' => ?_) (fun z t h => h.1) (fun hlt z t h m w hm hw => ⟨ms - 1, by omega, Or.inr (Or.inl ⟨rfl, i, z, u, rfl, ?_, hJ, (h.2 m w hm hw).1, (h.2 m w hm hw).2, by omega⟩)⟩)
      · rw [e108] at hlt
        rw [e109]
        exact (h109 i hi.1 hlt).2
      · rw [e108] at hge
        rw [show i = s.2.1 108 k.toNat by omega]
      · rw [e108] at hge
        rw [show s.2.1 108 k.toNat = i by omega]
        exact hJ
      · rw [e108] at hge
        have e0 : (s.2.1 108 k.toNat - i).toNat = 0 := by omega
        have e1 : i = s.2.1 108 k.toNat := by omega
        rw [e0, e1] at hY
        exact hY
      · have ra := a1.arr 110 (by decide) rfl (u.2.1 109 k.toNat + i).toNat
        have r56u := a1.fld 66 56 (by decide) rfl
        refine c_r_newVar hsL (d + 1) (by omega) a u K' a1 (by omega) (by omega) (fun z t c1 c2 c3 c4 c5 c6 c7 => ?_)
        have e56 := c5 56 rfl
        have hz : 0 ≤ z ∧ z ≤ 399999 := by omega
        have ht56 : 0 ≤ t.1 66 56 ∧ t.1 66 56 ≤ 119990 := by omega
        exact hK' z t ⟨⟨c1, ht56, hz⟩, fun m w hm hw => ⟨rf_WX_0 c1 c2 c3 c4 c5 c6 c7 (by rw [ha, e110, e109]) ht56 hz hm hw, we_J_same (u := t) (fun q hq => by show sx_uf t.1 66 56 w 66 q = _; rw [sx_uf_if, if_neg (fun cc => by omega)]) (fun p hp => sx_ua_ne (by omega)) (we_J_F c2 c5 rfl rfl hY)⟩⟩
      · rw [e108] at hlt
        exact ⟨hi.1, hlt⟩
    · have hb1 := hX.1.1
      have hb2 := hX.2.1
      have hj2 := hJ.2.1
      refine w_wunk_74 (PL := fun t => (cx_I t ∧ cx_F [(66, 66), (107, 107), (122, 122)] u t ∧ rf_f [86] u t ∧ ∀ j : Nat, t.2.1 107 j = if j = v.toNat then i else u.2.1 107 j) ∧ ∀ o, we_Sp E u o → we_Sp E t ((92 :: 120 :: (E.1.2.1 i ++ [46])).foldl (fun o c => E.1.1 c o) o)) (by omega) (by omega) (fun K' hK' => kA (d + 1) (by omega) v i u K' hb1 (by omega) (by omega) (fun z t c1 c2 c3 c4 c5 => hK' z t ⟨⟨c1, c2, c3, c4⟩, c5⟩)) (fun t h a b ha hb => ⟨ms - 1, by omega, Or.inl ⟨rfl, i + 1, by rw [ha, hb], by omega, rf_WJ_s r50.1 r56.1 r58.1 hi.1 hJ hX h.1.1 h.1.2.1 h.1.2.2.1 h.1.2.2.2, ?_, by omega⟩⟩)
      obtain ⟨⟨_, h2, h3, _⟩, h5⟩ := h
      refine we_J_pt hL (fun q hq => ?_) (fun p hp => ?_) h5 (fun w => ?_) hY
      · rcases hq with rfl | rfl | rfl
        · exact h3 61 rfl
        · exact h3 79 rfl
        · exact h3 89 rfl
      · have hp' : p = 108 ∨ p = 118 ∨ p = 119 ∨ p = 120 ∨ p = 121 := by omega
        rcases hp' with rfl | rfl | rfl | rfl | rfl <;> exact (h2.same _ rfl).2
      · have e1 : (s.2.1 108 k.toNat - i).toNat = (s.2.1 108 k.toNat - (i + 1)).toNat + 1 := by omega
        rw [e1]
        exact we_lam 0 0 _ .leaf i w
    · obtain ⟨hE, hN, hOu⟩ := rf_WJ_EX r108.1 hJ
      obtain ⟨hC, hD⟩ := rf_WJ_CL hM hk r50.1 r56.1 r58.1 r108.1 h70.1 hJ
      have hJ0 := hJ
      obtain ⟨⟨a1, a2, a3⟩, ⟨a4, a5, a6⟩, _⟩ := hJ0
      have e71 := a3 71 rfl
      have e70 := a3 70 rfl
      have e61 := a3 61 rfl
      have e9 := a3 9 rfl
      have hWu : rf_WW true nb ib u g := ⟨⟨a1, rf_NC_MI (rf_EX_le hE hnb hib) hN (Int.le_refl _) (Int.le_refl _) hM, by omega, by omega, by rw [rf_NC_ph hE hN]; exact hph⟩, by omega, by omega, by omega, ⟨by show u.1 66 50 ≤ 59950; omega, by omega⟩, hOu hO⟩
      refine w_wunk_90 (PW := fun t => rf_WU s t ∧ we_Z E Z P t) (fun K' hK' => ?_) (fun t h => hK 0 t h.1 h.2)
      obtain ⟨_, _, _, ⟨m2, m3⟩, m4⟩ := hJ
      have hbn : rf_bn u (s.1 66 50).toNat k := ⟨by omega, by omega, by rw [m3]; unfold rf_aa; rw [(a2.same 108 rfl).2]; omega⟩
      have eaa : rf_aa u k = s.2.1 108 k.toNat := by
        unfold rf_aa
        rw [(a2.same 108 rfl).2]
      have hGu : we_G (we_up E (fun j => if j = (s.1 66 50).toNat then vr_rw u (s.1 66 50).toNat k else we_AR E j)) u g := we_G_ar hL hI hM (rf_EX_le hE hnb hib) hN (fun j hj => if_neg (by omega)) (by omega) (fun p h1 h2 => ((a2 p).1 (fun q hq => by
        simp only [List.mem_cons, List.not_mem_nil, or_false] at hq
        rcases hq with rfl | rfl | rfl <;> (dsimp only; omega))).2) (a3 3 rfl) hG
      have hVt : vr_t u (we_AR (we_up E (fun j => if j = (s.1 66 50).toNat then vr_rw u (s.1 66 50).toNat k else we_AR E j))) (.inner (s.1 66 50).toNat (3, k) () .leaf .leaf) := ⟨by omega, Or.inr (Or.inl ⟨rfl, hbn, if_pos rfl⟩)⟩
      obtain ⟨⟨_, GS⟩, _⟩ := hG trivial
      have eV : we_V (we_up E (fun j => if j = (s.1 66 50).toNat then vr_rw u (s.1 66 50).toNat k else we_AR E j)) u (.inner (s.1 66 50).toNat (3, k) () .leaf .leaf) .leaf (s.2.1 108 k.toNat) = we_th E k := by
        have e0 := vr_V_call (th := we_th E) (AR := fun j => if j = (s.1 66 50).toNat then vr_rw u (s.1 66 50).toNat k else we_AR E j) (fun m => (GS.1 m).1) (j := (s.1 66 50).toNat) (q := (3, k)) (u := ()) (f := .leaf) (x := .leaf) (y := .leaf) (L := u.1 66 58) rfl
        show vx_re (we_D u (s.2.1 108 k.toNat)) (vr_V (we_th E) (fun j => if j = (s.1 66 50).toNat then vr_rw u (s.1 66 50).toNat k else we_AR E j) (.inner (s.1 66 50).toNat (3, k) () .leaf .leaf) .leaf (u.1 66 58)) = we_th E k
        rw [e0, vx_re_re]
        dsimp only
        rw [if_pos rfl]
        have hsc := GS.2.1 k hk.1 hk.2
        refine vx_re_id hsc (fun v hv => ?_)
        have v0 := (GS.1 k).2 v hv
        have hlen : ((vr_rw u (s.1 66 50).toNat k).map (rf_look .leaf)).length = (s.2.1 108 k.toNat).toNat := by
          rw [List.length_map]
          unfold vr_rw
          rw [vr_gl, eaa]
        show we_D u (s.2.1 108 k.toNat) (vx_ix ((vr_rw u (s.1 66 50).toNat k).map (rf_look .leaf)) (u.1 66 58) v) = v
        unfold vx_ix
        rw [hlen]
        by_cases hv1 : v < (((s.2.1 108 k.toNat).toNat : Nat) : Int)
        · have hq := m4 v.toNat (by omega)
          have e1 : ((vr_rw u (s.1 66 50).toNat k).map (rf_look .leaf)).getD v.toNat (-1) = s.1 66 58 + v := by
            refine vx_getD ?_
            rw [List.getElem?_map]
            unfold vr_rw
            rw [vr_gr.mpr ⟨by rw [eaa]; omega, rfl⟩]
            show some (rf_rv1 u (s.1 66 50).toNat v.toNat) = some (s.1 66 58 + v)
            unfold rf_rv1
            rw [m3, hq.1]
            exact congrArg some (by omega)
          rw [if_pos hv1, e1]
          unfold we_D
          have e2 : ((v.toNat : Nat) : Int) = v := by omega
          rw [e2] at hq
          rw [if_pos (by omega), hq.2.2]
        · rw [if_neg hv1]
          unfold we_D
          rw [if_neg (by omega)]
          omega
      refine c_e_write (E := we_up E (fun j => if j = (s.1 66 50).toNat then vr_rw u (s.1 66 50).toNat k else we_AR E j)) hL hKE hsL 1255 (d + 1) (by omega) Z P (fun _ _ => False) _ .leaf .leaf [] 1155 1255 (s.1 66 50) (-1) (s.2.1 108 k.toNat) nb ib u g K' hWu hC (Or.inr ⟨rfl, by omega⟩) (by omega) hD (by omega) (by omega) (by omega) hGu hVt (by rw [eV]; exact we_J_le (fun _ h => h) (fun m hm => hm) hY) (fun z t c1 c2 c3 c4 c5 c6 => hK' z t ⟨?_, c6⟩)
      obtain ⟨hE2, hN2⟩ := rf_WF_EX c2
      obtain ⟨⟨b1, b2, b3⟩, _, b8, b9, _⟩ := c2
      have f56 := b2 56 rfl
      exact ⟨⟨c1, rf_EX_trans hE2 hE (by omega) (by omega), ⟨hN2.1.trans hN.1, fun j hj => (hN2.2 j (by rw [hN.1]; exact hj)).trans (hN.2 j hj)⟩, c3⟩, ⟨cx_F_step b1 rfl (cx_F_step a2 rfl (cx_F_refl _ _)), rf_f_step b2 rfl (rf_f_step a3 rfl (rf_f_refl _ _))⟩, by omega, by omega, by omega, by omega, by omega⟩
/-- a term behind n \ -/
theorem we_lm_ok {n : Int} {ar : Int → Int} {T : rf_N} (h : wz_ok n ar T) (ho : vx_on T) : ∀ k, wz_ok n ar (vq_lm k T)
  | 0 => h
  | k + 1 => by
    show wz_ok n ar (.inner 0 (0, 0) () (vq_lm k T) .leaf)
    rw [wz_ok_in, if_neg (by decide)]
    exact ⟨we_lm_ok h ho k, trivial, fun _ => vq_lm_on ho k⟩
theorem we_lm_go {T : rf_N} {a : List (Int × List Int)} : ∀ k, wz_go (vq_lm k T) a = wz_go T a
  | 0 => rfl
  | k + 1 => by
    show wz_go (.inner 0 (0, 0) () (vq_lm k T) .leaf) a = _
    rw [wz_go_in, if_neg (by decide), we_lm_go k]
    rfl
theorem we_lm_acc {E : we_E Ω} {n : Int} {ar : Int → Int} {T : rf_N} (h : wz_ok n ar T) (ho : vx_on T) {k : Nat} {dp : Int} {w : we_A Ω} : ((we_W E (vq_lm k T)).1 dp w).1 = wz_go T w.1 := by
  rw [we_W_acc (we_lm_ok h ho k) (vq_lm_on ho k), we_lm_go]
theorem c_e_number {E : we_E Ω} (hL : we_L E) {sL : Nat} {sx : Nat → Int32} (hKE : we_K E sL sx) (hsL : sL ≤ 3072) (d : Nat) (hd : 1430 ≤ d) (hfull : ∀ p : Nat → Int, ∃ o, we_sa E o ∧ E.2.1.1 4001 p o) : ∀ (nb ib : Int) (s : sx_S) (g : rf_Gh) (K : Int → sx_S → Prop), cx_I s → rf_MI nb ib s g → (nb ≤ s.1 66 71 ∧ ib ≤ s.1 66 58) → rf_ph s g ≤ 1150 → (0 ≤ s.1 66 70 ∧ s.1 66 70 ≤ 100) → s.1 66 61 ≤ 2900 → (2 ≤ s.1 66 9 ∧ s.1 66 9 ≤ 6000) → s.1 66 45 ≤ s.1 66 61 → (s.1 66 50 ≤ 59930 ∧ s.1 66 56 ≤ 119800) → s.1 66 71 ≤ 390000 → s.1 66 58 ≤ 390000 → we_G E s g → (∀ z t, (∃ t', rf_NU s t' 5 ∧ we_N t' (wz_al (we_th E) (s.1 66 45).toNat) ∧ t = (sx_uf t'.1 66 89 0, t'.2)) → K z t) → sx_C sL sx d 202 [.inr (.inl 66)] s K := by
  intro nb ib s g K hI hM hnb hph h70 h61 h9 h45 h50 h71 h58 hG hK
  obtain ⟨d, rfl⟩ : ∃ e, d = e + 2 := ⟨d - 2, by omega⟩
  have r45 := hI.fld 66 45 (by decide) rfl
  have r61 := hI.fld 66 61 (by decide) rfl
  have r50 := hI.fld 66 50 (by decide) rfl
  have r56 := hI.fld 66 56 (by decide) rfl
  have r58 := hI.fld 66 58 (by decide) rfl
  have r71 := hI.fld 66 71 (by decide) rfl
  refine sx_methL (wr := true) (n := 400) (n' := 400) (stop := [(12, [0, 1]), (40, [0]), (54, [0, 1])]) (fun ms pc ls u => (pc = 12 ∧ ∃ m : Int, ls = [(0, .inr (.inl 66)), (1, .inl m)] ∧ (0 ≤ m ∧ m ≤ s.1 66 61) ∧ rf_N1 s u m ∧ (∀ j : Nat, (j : Int) < m → u.2.1 119 j = 0) ∧ (ms : Int) = 4000 - m) ∨ (pc = 40 ∧ ls = [(0, .inr (.inl 66))] ∧ rf_N1 s u (s.1 66 61) ∧ (∀ j : Nat, (j : Int) < s.1 66 61 → u.2.1 119 j = 0) ∧ ms = 100) ∨ (pc = 54 ∧ ∃ k : Int, ls = [(0, .inr (.inl 66)), (1, .inl k)] ∧ (0 ≤ k ∧ k ≤ s.1 66 45) ∧ rf_NU s u k ∧ (∃ w : we_A Ω, w.1 = wz_al (we_th E) k.toNat ∧ we_Z E w (fun _ => False) u ∧ u.1 66 89 = 1) ∧ (ms : Int) = 20 - k)) hsL (e := eX12_number) rfl ?_ ?_
  · have hI1 : cx_I (sx_uf s.1 66 79 0, s.2) := cx_I_uf rfl rfl hI (by decide) (by decide)
    have hI2 : cx_I (sx_uf (sx_uf s.1 66 79 0) 66 83 0, s.2) := cx_I_uf rfl rfl hI1 (by decide) (by decide)
    have hF1 : cx_F [(66, 66), (118, 119)] s (sx_uf s.1 66 79 0, s.2) := cx_F_uf rfl (cx_F_refl _ _)
    have hf1 : rf_f [79, 83] s (sx_uf s.1 66 79 0, s.2) := rf_f_uf rfl (rf_f_refl _ _)
    exact w_number ⟨4000, Or.inl ⟨rfl, 0, rfl, by omega, ⟨⟨hI2, cx_F_uf rfl hF1, rf_f_uf rfl hf1⟩, ⟨by show sx_uf (sx_uf s.1 66 79 0) 66 83 0 66 79 = 0; rw [sx_uf_if, if_neg (by decide), sx_uf_if, if_pos ⟨rfl, rfl⟩], by show sx_uf (sx_uf s.1 66 79 0) 66 83 0 66 83 = 0; rw [sx_uf_if, if_pos ⟨rfl, rfl⟩]⟩, fun j hj => absurd hj (by omega)⟩, fun j hj => absurd hj (by omega), by omega⟩⟩
  · rintro ms pc ls u (⟨rfl, m, rfl, hm, hN, h119, hms⟩ | ⟨rfl, rfl, hN, h119, rfl⟩ | ⟨rfl, k, rfl, hk, hN, hY, hms⟩)
    · have hN0 := hN
      obtain ⟨⟨a1, a2, a3⟩, ⟨b1, b2⟩, c⟩ := hN0
      have e61 := a3 61 rfl
      refine w_number_12 a1 (by omega) (by omega) (fun hge => ⟨100, by omega, Or.inr (Or.inl ⟨rfl, rfl, ?_, ?_, rfl⟩)⟩) (fun hlt y hy => ⟨ms - 1, by omega, Or.inl ⟨rfl, y, rfl, by omega, ?_, ?_, by omega⟩⟩)
      · rw [show s.1 66 61 = m by omega]
        exact hN
      · rw [show s.1 66 61 = m by omega]
        exact h119
      · have i1 : cx_I (u.1, sx_ua u.2.1 118 m.toNat (-1), u.2.2) := cx_I_ua rfl rfl a1 (by decide) (by decide)
        have i2 : cx_I (u.1, sx_ua (sx_ua u.2.1 118 m.toNat (-1)) 119 m.toNat 0, u.2.2) := cx_I_ua rfl rfl i1 (by decide) (by decide)
        have f1 : cx_F [(66, 66), (118, 119)] s (u.1, sx_ua u.2.1 118 m.toNat (-1), u.2.2) := cx_F_ua rfl a2
        have f2 : cx_F [(66, 66), (118, 119)] s (u.1, sx_ua (sx_ua u.2.1 118 m.toNat (-1)) 119 m.toNat 0, u.2.2) := cx_F_ua rfl f1
        refine ⟨⟨i2, f2, a3⟩, ⟨b1, b2⟩, fun j hj => ?_⟩
        show sx_ua (sx_ua u.2.1 118 m.toNat (-1)) 119 m.toNat 0 118 j = -1
        rw [sx_ua_ne (by decide), sx_ua_same]
        show (if j = m.toNat then -1 else u.2.1 118 j) = -1
        by_cases hjm : j = m.toNat
        · rw [if_pos hjm]
        · rw [if_neg hjm]
          exact c j (by omega)
      · intro j hj
        show sx_ua (sx_ua u.2.1 118 m.toNat (-1)) 119 m.toNat 0 119 j = 0
        rw [sx_ua_same, sx_ua_ne (by decide)]
        show (if j = m.toNat then 0 else u.2.1 119 j) = 0
        by_cases hjm : j = m.toNat
        · rw [if_pos hjm]
        · rw [if_neg hjm]
          exact h119 j (by omega)
    · obtain ⟨o, ho1, ho2⟩ := hfull (u.2.1 122)
      refine w_number_40 ⟨20, by omega, Or.inr (Or.inr ⟨rfl, 0, rfl, by omega, rf_N1_NU hN (Int.le_refl _), ⟨([], o), rfl, fun _ => ⟨⟨fun _ => ?_, ?_⟩, fun _ => ⟨ho1, fun m m0 m1 hs => ?_⟩⟩, ?_⟩, by omega⟩)⟩
      · obtain ⟨⟨a1, a2, a3⟩, ⟨b1, b2⟩, c⟩ := hN
        have o : ∀ q, q ≠ 86 → q ≠ 89 → sx_uf (sx_uf u.1 66 86 4001) 66 89 1 66 q = u.1 66 q := fun q h1 h2 => by
          rw [sx_uf_if, if_neg (fun cc => h2 cc.2), sx_uf_if, if_neg (fun cc => h1 cc.2)]
        refine ⟨(o 79 (by decide) (by decide)).trans b1, List.nodup_nil, fun m m0 m1 => Or.inl ⟨c m.toNat ?_, List.not_mem_nil⟩⟩
        have m1' : m < sx_uf (sx_uf u.1 66 86 4001) 66 89 1 66 61 := m1
        rw [o 61 (by decide) (by decide), a3 61 rfl] at m1'
        omega
      · show E.2.1.1 (sx_uf (sx_uf u.1 66 86 4001) 66 89 1 66 86) (u.2.1 122) o
        rw [sx_uf_if, if_neg (by decide), sx_uf_if, if_pos ⟨rfl, rfl⟩]
        exact ho2
      · have m1' : m < sx_uf (sx_uf u.1 66 86 4001) 66 89 1 66 61 := m1
        rw [sx_uf_if, if_neg (by decide), sx_uf_if, if_neg (by decide), hN.1.2.2 61 rfl] at m1'
        exact absurd (h119 m.toNat (by omega)) hs
      · show sx_uf (sx_uf u.1 66 86 4001) 66 89 1 66 89 = 1
        rw [sx_uf_if, if_pos ⟨rfl, rfl⟩]
    · have hWW := rf_NU_WW hM hnb.1 hnb.2 hph h70 h61 h9 (k := k) (by omega) h50.1 h50.2 hN
      have hN0 := hN
      obtain ⟨⟨a1, a2, a3, a4⟩, ⟨b1, b2⟩, c1, c2, c3, c4, c5⟩ := hN0
      have e45 := b2 45 rfl
      have e61 := b2 61 rfl
      obtain ⟨w, hw1, hw2, hw3⟩ := hY
      have hGu : we_G E u g := we_G_up hL hI hM (rf_EX_le a2 (by omega) (by omega)) a3 (by omega) (fun p h1 h2 => ((b1 p).1 (fun q hq => by
        simp only [List.mem_cons, List.not_mem_nil, or_false] at hq
        rcases hq with rfl | rfl | rfl <;> (dsimp only; omega))).2) (b2 3 rfl) hG
      refine w_number_54 (PW := fun t => rf_WU u t ∧ we_Z E ((we_W E (vq_lm (rf_aa u k).toNat (we_th E k))).1 0 w) (fun _ => False) t) a1 (by omega) (fun hge => hK 0 _ ⟨u, ?_, ?_, rfl⟩) (fun hlt K' hK' => c_e_wunk hL hKE hsL (d + 1) (by omega) _ (fun _ => False) k nb ib u g K' hWW (by omega) (by omega) (by omega) (by omega) (by omega) hGu ⟨w, fun _ => False, (hw2 trivial).1, rfl, fun _ => ⟨fun c => absurd c (by omega), fun c => ⟨((hw2 trivial).2 c).1, fun _ h => h.elim, ((hw2 trivial).2 c).2⟩⟩⟩ (fun z t h1 h2 => hK' z t ⟨h1, h2⟩)) (fun hlt t h y hy => ⟨ms - 1, by omega, Or.inr (Or.inr ⟨rfl, y, rfl, by omega, ?_, ⟨_, ?_, h.2, ?_⟩, by omega⟩)⟩)
      · exact ⟨⟨a1, a2, a3, a4⟩, ⟨b1, b2⟩, by omega, by omega, by omega, by omega, by omega⟩
      · have e1 := (hw2 trivial).1.1
        rw [hw1, show k = s.1 66 45 by omega] at e1
        exact e1
      · rw [hy]
        exact rf_NU_s hk.1 hN h.1
      · obtain ⟨⟨_, GS⟩, _, Gok, _⟩ := hGu trivial
        rw [we_lm_acc (Gok k (by omega) (by omega)) (GS.1 k).1, hw1, show y.toNat = k.toNat + 1 by omega]
        show wz_go (we_th E k) (wz_al (we_th E) k.toNat) = wz_go (we_th E ((k.toNat : Nat) : Int)) (wz_al (we_th E) k.toNat)
        rw [show ((k.toNat : Nat) : Int) = k by omega]
      · exact (h.1.2.1.2 89 rfl).trans hw3
end
