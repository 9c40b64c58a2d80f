/-! ===== the reference: join ===== -/
/-- both rows are made -/
def rf_JB (s w : sx_S) (m n x5 x6 : Int) : Prop := (cx_I w ∧ rf_EX (s.1 66 71) (s.1 66 58) s w ∧ rf_NC s w ∧ rf_FS s w) ∧ (w.1 66 71 = s.1 66 71 ∧ w.1 66 58 = s.1 66 58 ∧ w.1 66 70 = s.1 66 70 ∧ w.1 66 50 = s.1 66 50 ∧ w.1 66 61 = s.1 66 61 ∧ w.1 66 64 = s.1 66 64 ∧ w.1 66 56 ≤ s.1 66 56 + 8 ∧ w.2.1 108 = s.2.1 108) ∧ ((0 ≤ x5 ∧ x5 + rf_aa w m ≤ w.1 66 56) ∧ (∀ q : Nat, (q : Int) < rf_aa w m → ∃ T, rf_py w m q T ∧ rf_vb (w.1 66 58) w (w.2.1 105 (x5 + (q : Int)).toNat) T) ∧ (∀ p q : Nat, (p : Int) < rf_aa w m → (q : Int) < rf_aa w m → w.2.1 105 (x5 + (p : Int)).toNat = w.2.1 105 (x5 + (q : Int)).toNat → p = q)) ∧ ((0 ≤ x6 ∧ x6 + rf_aa w n ≤ w.1 66 56) ∧ (∀ q : Nat, (q : Int) < rf_aa w n → ∃ T, rf_py w n q T ∧ rf_vb (w.1 66 58) w (w.2.1 105 (x6 + (q : Int)).toNat) T) ∧ (∀ p q : Nat, (p : Int) < rf_aa w n → (q : Int) < rf_aa w n → w.2.1 105 (x6 + (p : Int)).toNat = w.2.1 105 (x6 + (q : Int)).toNat → p = q))
/-- so many variables of both are found -/
def rf_JW (w u : sx_S) (m n x5 x6 x9 x10 x11 : Int) (kf kg : Nat → Nat) (c : Nat) : Prop := rf_KW w u (fun q => w.2.1 105 (x5 + (q : Int)).toNat) (fun q => w.2.1 110 (w.2.1 109 m.toNat + (q : Int)).toNat) kf c ∧ (x9 = w.1 66 61 ∧ x10 = w.1 66 50) ∧ (0 ≤ x11 ∧ x11 ≤ w.2.1 108 m.toNat) ∧ (∀ i, i < c → ((kf i : Nat) : Int) < x11 ∧ ((kg i : Nat) : Int) < w.2.1 108 n.toNat ∧ w.2.1 105 (x5 + ((kf i : Nat) : Int)).toNat = w.2.1 105 (x6 + ((kg i : Nat) : Int)).toNat) ∧ (∀ i j, i < c → j < c → kf i = kf j → i = j) ∧ (c : Int) ≤ x11
theorem c_r_join {sL : Nat} {sx : Nat → Int32} (hsL : sL ≤ 3072) (d : Nat) (hd : 120 ≤ d) : ∀ (NA NB : Int → rf_T → Prop) (A B : rf_N) (yA yB : rf_Y) (x : rf_T) (WA WB : List Nat) (pa pb p : Nat) (a ba b bb : Int) (s : sx_S) (g : rf_Gh) (K : Int → sx_S → Prop), cx_I s → rf_MI (s.1 66 71) (s.1 66 58) s g → rf_ph s g ≤ 1150 → rf_RM 0 s → rf_CL s g NA A yA x WA pa a ba → rf_CL s g NB B yB x WB pb b bb → s.2.1 100 a.toNat = 3 → s.2.1 100 b.toNat = 3 → s.2.1 101 a.toNat ≠ s.2.1 101 b.toNat → s.2.1 111 (s.2.1 101 a.toNat).toNat = 0 → s.2.1 111 (s.2.1 101 b.toNat).toNat = 0 → (∀ z t, rf_PU s t g z p → K z t) → sx_C sL sx d 197 [.inr (.inl 66), .inl a, .inl ba, .inl b, .inl bb] s K := by
  intro NA NB A B yA yB x WA WB pa pb p a ba b bb s g K hI hM hph hR kA kB hA3 hB3 hne ho ho2 hK
  obtain ⟨d, rfl⟩ : ∃ e, d = e + 2 := ⟨d - 2, by omega⟩
  have pA := rf_CL_b hI kA
  have pB := rf_CL_b hI kB
  obtain ⟨m0, m1, _⟩ := rf_CL_3 kA hA3
  obtain ⟨n0, n1, _⟩ := rf_CL_3 kB hB3
  obtain ⟨mm, hmm⟩ : ∃ m, m = s.2.1 101 a.toNat := ⟨_, rfl⟩
  obtain ⟨nn, hnn⟩ : ∃ m, m = s.2.1 101 b.toNat := ⟨_, rfl⟩
  rw [← hmm] at m0 m1 ho
  rw [← hnn] at n0 n1 ho2
  rw [← hmm, ← hnn] at hne
  have hR2 := hR
  obtain ⟨q1, q2, q3, q4, q5, q6⟩ := hR
  have r108 := hI.arr 108 (by decide) rfl mm.toNat
  have r108b := hI.arr 108 (by decide) rfl nn.toNat
  have r56 := hI.fld 66 56 (by decide) rfl
  have r61 := hI.fld 66 61 (by decide) rfl
  have r50 := hI.fld 66 50 (by decide) rfl
  have r64 := hI.fld 66 64 (by decide) rfl
  have ram : rf_aa s mm = s.2.1 108 mm.toNat := rfl
  have ran : rf_aa s nn = s.2.1 108 nn.toNat := rfl
  have yA4 := kA.1.2.2.2
  have yB4 := kB.1.2.2.2
  have dA : rf_dp yA ≤ 100 := by have := yA4.2.2.2; omega
  have dB : rf_dp yB ≤ 100 := by have := yB4.2.2.2; omega
  refine sx_methL (wr := true) (n := 400) (n' := 400) (stop := [(62, [0, 5, 6, 7, 8, 9, 10, 11]), (80, [0, 5, 6, 7, 8, 9, 10, 11, 12, 13])]) (fun ms pc ls u => (pc = 62 ∧ ∃ (x5 x6 x7 x8 x9 x10 x11 : Int) (w : sx_S) (kf kg : Nat → Nat) (c : Nat), ls = [(0, .inr (.inl 66)), (5, .inl x5), (6, .inl x6), (7, .inl x7), (8, .inl x8), (9, .inl x9), (10, .inl x10), (11, .inl x11)] ∧ (x7 = mm ∧ x8 = nn) ∧ rf_JB s w mm nn x5 x6 ∧ rf_JW w u mm nn x5 x6 x9 x10 x11 kf kg c ∧ ms = (10 * (4 - x11) + 9).toNat) ∨ (pc = 80 ∧ ∃ (x5 x6 x7 x8 x9 x10 x11 x12 x13 : Int) (w : sx_S) (kf kg : Nat → Nat) (c : Nat), ls = [(0, .inr (.inl 66)), (5, .inl x5), (6, .inl x6), (7, .inl x7), (8, .inl x8), (9, .inl x9), (10, .inl x10), (11, .inl x11), (12, .inl x12), (13, .inl x13)] ∧ (x7 = mm ∧ x8 = nn) ∧ rf_JB s w mm nn x5 x6 ∧ rf_JW w u mm nn x5 x6 x9 x10 x11 kf kg c ∧ x11 < w.2.1 108 mm.toNat ∧ (0 ≤ x12 ∧ x12 ≤ 1) ∧ (0 ≤ x13 ∧ x13 ≤ w.2.1 108 nn.toNat) ∧ (x12 ≠ 0 → ∃ q : Nat, (q : Int) < w.2.1 108 nn.toNat ∧ w.2.1 105 (x5 + x11).toNat = w.2.1 105 (x6 + (q : Int)).toNat) ∧ ms = (10 * (4 - x11) + (4 - x13)).toNat)) hsL (e := eX12_join) rfl ?_ ?_
  · refine w_join (PA := fun z t => cx_I t ∧ cx_F [(66, 66), (105, 105)] s t ∧ rf_f [56] s t ∧ z = s.1 66 56 ∧ t.1 66 56 = s.1 66 56 + s.2.1 108 mm.toNat ∧ rf_ag 105 105 (s.1 66 56) s t ∧ (∀ k : Nat, (k : Int) < s.2.1 108 mm.toNat → t.2.1 105 (z + (k : Int)).toNat = rf_vo s yA a k)) (PB := fun z t z2 w => rf_JB s w mm nn z z2 ∧ w.2.1 101 = s.2.1 101) (PN := fun z2 w z3 t => (w.1 66 50 ≤ 59990 ∧ 0 ≤ w.1 66 50 ∧ 0 ≤ w.1 66 61 ∧ w.1 66 61 ≤ 2990) ∧ cx_I t ∧ cx_F [(66, 66), (108, 109), (111, 111), (124, 124)] w t ∧ z3 = w.1 66 61 ∧ t.1 66 61 = w.1 66 61 + 1 ∧ rf_f [61] w t ∧ rf_ag 108 111 (w.1 66 61) w t ∧ t.2.1 108 z3.toNat = 0 ∧ t.2.1 109 z3.toNat = w.1 66 64 ∧ t.2.1 111 z3.toNat = 0) (PM := fun z3 t3 z4 t4 => (0 ≤ z4 ∧ z4 ≤ 59999) ∧ cx_I t4 ∧ cx_F [(66, 66), (100, 103)] t3 t4 ∧ z4 = t3.1 66 50 ∧ t4.1 66 50 = t3.1 66 50 + 1 ∧ rf_f [50] t3 t4 ∧ rf_ag 100 103 (t3.1 66 50) t3 t4 ∧ rf_mk t4 z4 3 z3) pA pB ?_ ?_ ?_ ?_ ?_ ?_ ?_
    · intro K' hK'
      exact c_r_actual hsL 100 (d + 1) (by omega) yA a ba (s.2.1 108 mm.toNat) s K' hI pA (by omega) (by rw [hmm]) (by omega) (fun k hk => by omega) dA yA4.1 (fun z t c1 c2 c3 c4 c5 c6 c7 => hK' z t ⟨c1, c2, c3, c4, c5, c6, c7⟩)
    · rintro z t ⟨c1, c2, c3, c4, c5, c6, c7⟩ K' hK'
      obtain ⟨hE, hFS⟩ := rf_EX_row (nb := s.1 66 71) (ib := s.1 66 58) c2 c3 c6 (by omega)
      have hNC : rf_NC s t := rf_NC_F c2 rfl c3 rfl
      have e50 := c3 50 rfl
      have e58 := c3 58 rfl
      have e61 := c3 61 rfl
      have e64 := c3 64 rfl
      have e70 := c3 70 rfl
      have e71 := c3 71 rfl
      have t108 : t.2.1 108 = s.2.1 108 := (c2.same 108 rfl).2
      have t104 : t.2.1 104 = s.2.1 104 := (c2.same 104 rfl).2
      have t101 : t.2.1 101 = s.2.1 101 := (c2.same 101 rfl).2
      have hMt : rf_MI (t.1 66 71) (t.1 66 58) t g := rf_NC_MI hE hNC (by omega) (by omega) hM
      obtain ⟨z1, z2, z3, z4⟩ := rf_act_ok hM kA hA3 hmm ho c2 c3 c4 c5 c6 c7 r108.1 r56.1
      have kB2 := rf_CL_up hE (by omega) (by omega) (rf_EG_refl s g) hM.ub kB
      have hB3t : t.2.1 100 b.toNat = 3 := by rw [(c2.same 100 rfl).2]; exact hB3
      refine c_r_actual hsL 100 (d + 1) (by omega) yB b bb (s.2.1 108 nn.toNat) t K' c1 pB (by rw [t101]; omega) (by rw [t108, t101, hnn]) (by omega) (fun k hk => by rw [t104]; omega) dB kB2.1.2.2.2.1 (fun z2' w f1 f2 f3 f4 f5 f6 f7 => hK' z2' w ⟨?_, by rw [(f2.same 101 rfl).2, t101]⟩)
      obtain ⟨hE2, hFS2⟩ := rf_EX_row (nb := t.1 66 71) (ib := t.1 66 58) f2 f3 f6 (by omega)
      have hNC2 : rf_NC t w := rf_NC_F f2 rfl f3 rfl
      obtain ⟨y1, y2, y3, y4⟩ := rf_act_ok (m := nn) hMt kB2 hB3t (by rw [t101]; exact hnn) (by rw [(c2.same 111 rfl).2]; exact ho2) f2 f3 f4 (by rw [t108]; exact f5) f6 (by rw [t108]; exact f7) (by rw [t108]; exact r108b.1) (by omega)
      have w108 : w.2.1 108 = t.2.1 108 := (f2.same 108 rfl).2
      have ewm : rf_aa w mm = rf_aa t mm := by unfold rf_aa; rw [w108]
      have g58 := f3 58 rfl
      have g105 : ∀ q : Nat, (q : Int) < rf_aa t mm → w.2.1 105 (z + (q : Int)).toNat = t.2.1 105 (z + (q : Int)).toNat := fun q hq => f6 105 _ (by omega) (by omega) (by omega)
      refine ⟨⟨f1, rf_EX_trans hE2 hE (by omega) (by omega), ⟨hNC2.1.trans hNC.1, fun j hj => (hNC2.2 j (by omega)).trans (hNC.2 j hj)⟩, rf_FS_trans hFS2 hFS⟩, ⟨(f3 71 rfl).trans e71, g58.trans e58, (f3 70 rfl).trans e70, (f3 50 rfl).trans e50, (f3 61 rfl).trans e61, (f3 64 rfl).trans e64, by omega, w108.trans t108⟩, ⟨⟨z2.1, by rw [ewm]; omega⟩, fun q hq => ?_, fun p q hp hq e => ?_⟩, ⟨y2, y3, y4⟩⟩
      · rw [ewm] at hq
        obtain ⟨T, t1, t2⟩ := z3 q hq
        rw [g105 q hq, g58]
        exact ⟨T, hE2.pt z1.1 (by omega) t1, (hE2.vb (Int.le_refl _) _ _).mpr t2⟩
      · rw [ewm] at hp hq
        rw [g105 p hp, g105 q hq] at e
        exact z4 p q hp hq e
    · rintro z t z2 w _ ⟨hJ, _⟩
      exact hJ.1.1
    · rintro z t z2 w _ ⟨hJ, _⟩ K' hK'
      obtain ⟨⟨w1, _⟩, ⟨_, _, _, w50, w61, _⟩, _⟩ := hJ
      exact c_r_newMeta hsL (d + 1) (by omega) w K' w1 (by omega) (fun z3 t3 c1 c2 c3 c4 c5 c6 c7 c8 c9 => hK' z3 t3 ⟨by omega, c1, c2, c3, c4, c5, c6, c7, c8, c9⟩)
    · rintro z2 w z3 t3 ⟨c0, c1, c2, c3, c4, c5, c6, c7, c8, c9⟩ K' hK'
      have := c5 50 rfl
      exact c_r_make hsL (d + 1) (by omega) 3 z3 t3 K' c1 (by omega) (by omega) (by omega) (fun z4 t4 e1 e2 e3 e4 e5 e6 e7 => hK' z4 t4 ⟨by omega, e1, e2, e3, e4, e5, e6, e7⟩)
    · rintro z3 t3 z4 t4 ⟨c0, c1, _⟩
      exact ⟨c1, c0⟩
    · rintro z t z2 w z3 t3 z4 t4 _ ⟨hJ, hw101⟩ ⟨c0, c1, c2, c3, c4, c5, c6, c7, c8, c9⟩ ⟨e0, e1, e2, e3, e4, e5, e6, e7⟩ m n v hm hn hv
      have := c5 50 rfl
      refine ⟨_, Or.inl ⟨rfl, z, z2, m, n, z3, z4, 0, w, (fun _ => 0), (fun _ => 0), 0, rfl, ⟨by rw [hm, hw101, hmm], by rw [hn, hw101, hnn]⟩, hJ, ⟨rf_KW_0 (by omega) (by omega) c2 c3 c4 c5 c6 c7 c8 c9 e1 e2 e3 e4 e5 e6 e7 hv, ⟨c3, by omega⟩, ⟨by omega, (hJ.1.1.arr 108 (by decide) rfl mm.toNat).1⟩, fun i hi => absurd hi (Nat.not_lt_zero _), fun i j hi => absurd hi (Nat.not_lt_zero _), by omega⟩, rfl⟩⟩
  · rintro ms pc ls u (⟨rfl, x5, x6, x7, x8, x9, x10, x11, w, kf, kg, c, rfl, ⟨h7, h8⟩, hJ, hW, rfl⟩ | ⟨rfl, x5, x6, x7, x8, x9, x10, x11, x12, x13, w, kf, kg, c, rfl, ⟨h7, h8⟩, hJ, hW, h11, h12, h13, hc, rfl⟩)
    · have hJ2 := hJ
      obtain ⟨⟨w1, w2, w3, w4⟩, ⟨w71, w58, w70, w50, w61, w64, w56, w108⟩, ⟨⟨a1, a2⟩, a3, a4⟩, ⟨⟨b1, b2⟩, b3, b4⟩⟩ := hJ
      have hW2 := hW
      obtain ⟨hKW, ⟨h9, h10⟩, hx11, hkf, hki, hcx⟩ := hW
      have hKW2 := hKW
      obtain ⟨⟨u1, u2, u3⟩, ⟨u50, u61, u56, u64⟩, ⟨ag1, ag2, ag3, ag4, ag5⟩, _⟩ := hKW
      have eu : u.2.1 108 mm.toNat = w.2.1 108 mm.toNat := ag3 108 _ (by omega) (by omega) (by omega)
      have e1 : rf_aa w mm = w.2.1 108 mm.toNat := rfl
      have e2 : rf_aa w nn = w.2.1 108 nn.toNat := rfl
      rw [h7, h8]
      have r1 := w1.arr 108 (by decide) rfl mm.toNat
      have r2 := w1.arr 108 (by decide) rfl nn.toNat
      have u70 := u3 70 rfl
      refine w_join_62 (PA := fun t => w.2.1 108 mm.toNat ≤ x11 ∧ rf_AS u t mm x5 x10 (-1)) (PB := fun t => rf_PU s t g 1 p) u1 (by omega) (by omega) ?_ ?_ ?_ ?_
      · intro q K' hK'
        exact c_r_assign hsL (d + 1) (by omega) mm x5 x10 (-1) u K' u1 (by omega) (by omega) (by omega) (by omega) (by omega) (fun z t g1 g2 g3 g4 g5 g6 => hK' z t ⟨by omega, g1, g2, g3, g4, g5, g6⟩)
      · rintro v ⟨hx, hA⟩ K' hK'
        have hA' := hA
        obtain ⟨v1, v2, v3, v4, _⟩ := hA'
        refine c_r_assign hsL (d + 1) (by omega) nn x6 x10 (-1) v K' v1 (by omega) (by omega) (by omega) (by omega) (by omega) (fun z t g1 g2 g3 g4 g5 g6 => hK' z t ?_)
        have hA2 : rf_AS v t nn x6 x10 (-1) := ⟨g1, g2, g3, g4, g5, g6⟩
        have hMw : rf_MI (w.1 66 71) (w.1 66 58) w g := rf_NC_MI w2 w3 (by omega) (by omega) hM
        rw [h10] at hA hA2
        obtain ⟨hE2, g', k1, k2, k3, k4, k5⟩ := rf_MI_join (nb := w.1 66 71) (ib := w.1 66 58) w1 hMw (by omega) (by omega) hne (by rw [w3.2 _ (by omega)]; exact ho) (by rw [w3.2 _ (by omega)]; exact ho2) (by omega) ⟨a1, a2⟩ ⟨b1, b2⟩ a3 a4 b3 b4 hKW2 (fun i hi => by have := (hkf i hi).1; omega) (fun i hi => (hkf i hi).2) hki (by omega) hA hA2
        have f71 := u3 71 rfl
        have f58 := u3 58 rfl
        have h71 := v3 71 rfl
        have h58 := v3 58 rfl
        have i71 := g3 71 rfl
        have i58 := g3 58 rfl
        have hqu : rf_qu w = rf_qu s := rf_NC_qu w2 w3
        refine rf_PU_1 (t1 := w) g1 (rf_FS_trans (rf_FS_AS hA2) (rf_FS_trans (rf_FS_KA hKW2 hA) w4)) ?_ (rf_EX_trans hE2 w2 (by omega) (by omega)) (rf_EG_trans w2 k2 (rf_EG_refl _ _)) ?_ (k5 ?_) (by omega) (by omega) (by omega) (by omega)
        · rw [show t.1 66 71 = w.1 66 71 by omega, show t.1 66 58 = w.1 66 58 by omega]
          exact k1
        · have := rf_NC_ph (g := g) w2 w3
          omega
        · exact ⟨by omega, by omega, by omega, by omega, by omega, by omega⟩
      · intro t ht
        exact hK 1 t ht
      · intro hx
        exact ⟨_, by omega, Or.inr ⟨rfl, x5, x6, mm, nn, x9, x10, x11, 0, 0, w, kf, kg, c, rfl, ⟨rfl, rfl⟩, hJ2, hW2, by omega, by omega, by omega, fun q => absurd rfl q, rfl⟩⟩
    · have hJ2 := hJ
      obtain ⟨⟨w1, w2, w3, w4⟩, ⟨w71, w58, w70, w50, w61, w64, w56, w108⟩, ⟨⟨a1, a2⟩, a3, a4⟩, ⟨⟨b1, b2⟩, b3, b4⟩⟩ := hJ
      have hW2 := hW
      obtain ⟨hKW, ⟨h9, h10⟩, hx11, hkf, hki, hcx⟩ := hW
      have hKW2 := hKW
      obtain ⟨⟨u1, u2, u3⟩, ⟨u50, u61, u56, u64⟩, ⟨ag1, ag2, ag3, ag4, ag5⟩, _, ⟨f1, f2, f3⟩, _⟩ := hKW
      have eum : u.2.1 108 mm.toNat = w.2.1 108 mm.toNat := ag3 108 _ (by omega) (by omega) (by omega)
      have eun : u.2.1 108 nn.toNat = w.2.1 108 nn.toNat := ag3 108 _ (by omega) (by omega) (by omega)
      have eu9 : u.2.1 109 mm.toNat = w.2.1 109 mm.toNat := ag3 109 _ (by omega) (by omega) (by omega)
      have e1 : rf_aa w mm = w.2.1 108 mm.toNat := rfl
      have e2 : rf_aa w nn = w.2.1 108 nn.toNat := rfl
      rw [h7, h8]
      have r1 := w1.arr 108 (by decide) rfl mm.toNat
      have r2 := w1.arr 108 (by decide) rfl nn.toNat
      have r9 := w1.arr 109 (by decide) rfl mm.toNat
      have ex : ((x11.toNat : Nat) : Int) = x11 := by omega
      obtain ⟨T0, t0, _⟩ := a3 x11.toNat (by omega)
      have t0 := t0.1.2
      rw [ex] at t0
      have eA : u.2.1 105 (x5 + x11).toNat = w.2.1 105 (x5 + x11).toNat := ag2 105 _ (by omega) (by omega) (by omega)
      refine w_join_80 (PT := fun t => (w.2.1 108 nn.toNat ≤ x13 ∧ x12 ≠ 0) ∧ cx_I t ∧ cx_F [(66, 66), (108, 108), (110, 110)] u t ∧ rf_f [64] u t ∧ t.1 66 64 = u.1 66 64 + 1 ∧ rf_ag 110 110 (u.1 66 64) u t ∧ t.2.1 110 (u.1 66 64).toNat = w.2.1 110 (w.2.1 109 mm.toNat + x11).toNat ∧ rf_ro 108 108 x9 u t ∧ t.2.1 108 x9.toNat = u.2.1 108 x9.toNat + 1) u1 (by omega) (by omega) (by omega) (by omega) (by omega) (by omega) h12 (by omega) (by omega) ?_ ?_ ?_ ?_ ?_
      · intro hx cc y hcc hc1 hy
        refine ⟨_, by omega, Or.inr ⟨rfl, x5, x6, mm, nn, x9, x10, x11, cc, y, w, kf, kg, c, rfl, ⟨rfl, rfl⟩, hJ2, hW2, h11, hcc, by omega, fun q => ?_, rfl⟩⟩
        rcases hc1 (by omega) with z | z
        · exact hc z
        · refine ⟨x13.toNat, by omega, ?_⟩
          rw [Int.toNat_of_nonneg h13.1, ← eA, z]
          exact ag2 105 _ (by omega) (by omega) (by omega)
      · intro hx y hy
        exact ⟨_, by omega, Or.inl ⟨rfl, x5, x6, mm, nn, x9, x10, y, w, kf, kg, c, rfl, ⟨rfl, rfl⟩, hJ2, ⟨hKW2, ⟨h9, h10⟩, by omega, fun i hi => ⟨by have := (hkf i hi).1; omega, (hkf i hi).2⟩, hki, by omega⟩, rfl⟩⟩
      · intro hx hq v hv K' hK'
        have hv2 : v = w.2.1 110 (w.2.1 109 mm.toNat + x11).toNat := by
          rw [hv, eu9]
          exact ag4 110 _ (by omega) (by omega) (by omega)
        have hr := w1.arr 110 (by decide) rfl (w.2.1 109 mm.toNat + x11).toNat
        exact c_r_addType hsL (d + 1) (by omega) x9 v u K' u1 (by omega) (by omega) (by omega) (by rw [h9, f1]; omega) (fun z t g1 g2 g3 g4 g5 g6 g7 g8 => hK' z t ⟨⟨by omega, hq⟩, g1, g2, g3, g4, g5, by rw [g6]; exact hv2, g7, g8⟩)
      · rintro t ⟨_, g1, g2, g3, g4, g5, g6, g7, g8⟩
        have := g3 56 rfl
        exact ⟨g1, by omega⟩
      · rintro hx hq t ⟨_, g1, g2, g3, g4, g5, g6, g7, g8⟩ y v n' ww hy hv hn' hww
        have q56 := g3 56 rfl
        have hv2 : v = w.2.1 105 (x5 + x11).toNat := by
          rw [hv, (g2.same 105 rfl).2]
          exact eA
        obtain ⟨qq, qq1, qq2⟩ := hc hq
        refine ⟨_, by omega, Or.inl ⟨rfl, x5, x6, mm, nn, x9, x10, y, w, (fun i => if i = c then x11.toNat else kf i), (fun i => if i = c then qq else kg i), c + 1, rfl, ⟨rfl, rfl⟩, hJ2, ⟨rf_KW_s (k := x11.toNat) (by omega) (by omega) (by omega) h9 hKW2 g1 g2 g3 g4 g5 g6 g7 g8 (by rw [ex]) (by rw [ex]; exact hv2) (by rw [hv]; exact g1.arr 105 (by decide) rfl _) hn' hww (by omega), ⟨h9, h10⟩, by omega, fun i hi => ?_, fun i j hi hj e => ?_, by push_cast; omega⟩, rfl⟩⟩
        · dsimp only
          by_cases ci : i = c
          · rw [if_pos ci, if_pos ci, ex]
            exact ⟨by omega, qq1, qq2⟩
          · rw [if_neg ci, if_neg ci]
            have := hkf i (by omega)
            exact ⟨by omega, this.2⟩
        · dsimp only at e
          by_cases ci : i = c
          · by_cases cj : j = c
            · omega
            · rw [if_pos ci, if_neg cj] at e
              have := (hkf j (by omega)).1
              omega
          · by_cases cj : j = c
            · rw [if_neg ci, if_pos cj] at e
              have := (hkf i (by omega)).1
              omega
            · rw [if_neg ci, if_neg cj] at e
              exact hki i j (by omega) (by omega) e
