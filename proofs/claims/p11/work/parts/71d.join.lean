section
/-! ===== the reference: join, and the solutions ===== -/
/-- both rows are made, of these variables -/
def vr_JB (s w : sx_S) (yA yB : rf_Y) (a b m n x5 x6 : Int) : Prop := rf_JB s w m n x5 x6 ∧ (∀ q : Nat, (q : Int) < rf_aa w m → w.2.1 105 (x5 + (q : Int)).toNat = rf_vo s yA a q) ∧ ∀ q : Nat, (q : Int) < rf_aa w n → w.2.1 105 (x6 + (q : Int)).toNat = rf_vo s yB b q
/-- all common variables so far -/
def vr_JC (w : sx_S) (n x5 x6 x11 : Int) (kf : Nat → Nat) (c : Nat) : Prop := ∀ j : Nat, (j : Int) < x11 → (∃ q : Nat, (q : Int) < w.2.1 108 n.toNat ∧ w.2.1 105 (x5 + (j : Int)).toNat = w.2.1 105 (x6 + (q : Int)).toNat) → ∃ i, i < c ∧ kf i = j
/-- what join leaves of the solutions -/
theorem vr_joinS {nb ib : Int} {s u v t : sx_S} {g g' : rf_Gh} {AR : Nat → List Int} {m m2 row row2 L : Int} {Tf xf yf : Nat → Int} {kf : Nat → Nat} {n : Nat} (hI : cx_I s) (hE : rf_EX nb ib s t) (hM : rf_MI nb ib s g) (hM' : rf_MI nb ib t g') (hG : rf_EG s g g') (hV : vr_G s g AR) (hm : 0 ≤ m ∧ m < s.1 66 61) (hm2 : 0 ≤ m2 ∧ m2 < s.1 66 61) (hne : m ≠ m2) (ho : s.2.1 111 m.toNat = 0) (ho2 : s.2.1 111 m2.toNat = 0) (hrow : 0 ≤ row ∧ row + rf_aa s m ≤ s.1 66 56) (hrow2 : 0 ≤ row2 ∧ row2 + rf_aa s m2 ≤ s.1 66 56) (hx : ∀ q : Nat, (q : Int) < rf_aa s m → s.2.1 105 (row + (q : Int)).toNat = xf q) (hy : ∀ q : Nat, (q : Int) < rf_aa s m2 → s.2.1 105 (row2 + (q : Int)).toNat = yf q) (hf3 : ∀ p q : Nat, (p : Int) < rf_aa s m → (q : Int) < rf_aa s m → xf p = xf q → p = q) (hg3 : ∀ p q : Nat, (p : Int) < rf_aa s m2 → (q : Int) < rf_aa s m2 → yf p = yf q → p = q) (hL : 0 ≤ L) (hxL : ∀ q : Nat, (q : Int) < rf_aa s m → 0 ≤ xf q ∧ xf q < L) (hyL : ∀ q : Nat, (q : Int) < rf_aa s m2 → 0 ≤ yf q ∧ yf q < L) (hW : rf_KW s u (fun q => s.2.1 105 (row + (q : Int)).toNat) Tf kf n) (hkf : ∀ i, i < n → ((kf i : Nat) : Int) < rf_aa s m) (hki : ∀ i j, i < n → j < n → kf i = kf j → i = j) (hkc : ∀ j : Nat, (j : Int) < rf_aa s m → (∃ q : Nat, (q : Int) < rf_aa s m2 ∧ xf j = yf q) → ∃ i, i < n ∧ kf i = j) (hA : rf_AS u v m row (s.1 66 50) (-1)) (hA2 : rf_AS v t m2 row2 (s.1 66 50) (-1)) : ∃ AR' : Nat → List Int, vr_G t g' AR' ∧ (∀ j : Nat, (j : Int) < s.1 66 50 → AR' j = AR j) ∧ vr_Y (vr_S s g AR) (vr_S t g' AR') (fun th => vx_re (vx_ix ((List.range (rf_aa s m).toNat).map xf) L) (th m) = vx_re (vx_ix ((List.range (rf_aa s m2).toNat).map yf) L) (th m2)) := by
  obtain ⟨⟨b1, b2, b3⟩, ⟨c1, c2, c3, c4⟩, ⟨d1, d2, d3, d4, d5⟩, ⟨e1, e2, e3, e4, e5⟩, ⟨f1, f2, f3⟩, gg⟩ := hW
  obtain ⟨a1, a2, a3, a4, a5, a6, a7, a8, a9⟩ := hA
  obtain ⟨i1, i2, i3, i4, i5, i6, i7, i8, i9⟩ := hA2
  have r61 := hI.fld 66 61 (by decide) rfl
  have r50 := hI.fld 66 50 (by decide) rfl
  have r56 := hI.fld 66 56 (by decide) rfl
  have e61 := a3 61 rfl
  have e50 := a3 50 rfl
  have e56 := a3 56 rfl
  have j61 := i3 61 rfl
  have j50 := i3 50 rfl
  have j56 := i3 56 rfl
  have s105 : t.2.1 105 = u.2.1 105 := (i2.same 105 rfl).2.trans (a2.same 105 rfl).2
  have s104 : t.2.1 104 = u.2.1 104 := (i2.same 104 rfl).2.trans (a2.same 104 rfl).2
  have s108 : t.2.1 108 = u.2.1 108 := (i2.same 108 rfl).2.trans (a2.same 108 rfl).2
  have eam := hE.aa hm.1 hm.2
  have ean := hE.aa hm2.1 hm2.2
  have aam := vr_aa0 hI m
  have aan := vr_aa0 hI m2
  have ezf : ∀ i, i < n → s.2.1 105 (row + ((kf i : Nat) : Int)).toNat = xf (kf i) := fun i hi => hx (kf i) (hkf i hi)
  have hH1 : vr_H1 (fun x => x = m ∨ x = m2) (fun i => xf (kf i)) n s t := by
    refine ⟨⟨by omega, by omega, r50.1, r61.1⟩, fun x h0 h1 hx => ?_, ?_, fun x hx => ?_, ?_, ⟨⟨?_, ?_⟩, ?_⟩, fun i hi => ?_⟩
    · rw [i5 111 _ (by omega) (by omega) (by omega), a5 111 _ (by omega) (by omega) (by omega)]
      exact d5 111 _ (by omega) (by omega) (by omega)
    · rw [i5 111 _ (by omega) (by omega) (by omega), a5 111 _ (by omega) (by omega) (by omega)]
      exact f3
    · rcases hx with hx | hx
      · have hx' : x = m := hx
        subst hx'
        exact ⟨hm, ho, by rw [i5 111 _ (by omega) (by omega) (by omega), a6]; decide, by rw [i5 113 _ (by omega) (by omega) (by omega), a8], by rw [i5 114 _ (by omega) (by omega) (by omega), a9]⟩
      · have hx' : x = m2 := hx
        subst hx'
        exact ⟨hm2, ho2, by rw [i6]; decide, i8, i9⟩
    · rw [(i2.same 100 rfl).2, (i2.same 101 rfl).2, (i2.same 102 rfl).2, (i2.same 103 rfl).2, (a2.same 100 rfl).2, (a2.same 101 rfl).2, (a2.same 102 rfl).2, (a2.same 103 rfl).2]
      exact ⟨e1, e2, e3, e4⟩
    · rw [s104, e5]
      exact r56.1
    · rw [s104, e5]
      omega
    · unfold rf_aa
      rw [s108]
      exact f1
    · unfold rf_rv1
      rw [s104, e5, s105]
      exact (gg i hi).1.trans (ezf i hi)
  have hH2 : vr_H2 m row xf t := by
    refine ⟨by rw [i5 112 _ (by omega) (by omega) (by omega), a7], fun q hq => ?_, fun p q hp hq => ?_⟩
    · rw [s105, d2 105 _ (by omega) (by omega) (by omega)]
      exact hx q (by omega)
    · rw [eam] at hp hq
      exact hf3 p q hp hq
  have hH3 : vr_H2 m2 row2 yf t := by
    refine ⟨i7, fun q hq => ?_, fun p q hp hq => ?_⟩
    · rw [s105, d2 105 _ (by omega) (by omega) (by omega)]
      exact hy q (by omega)
    · rw [ean] at hp hq
      exact hg3 p q hp hq
  have hbo := vr_H1_bo hE hG hM hM' hH1
  have har := vr_H1_ar hE hH1
  have hp := vr_H1_p (AR := AR) hH1
  have ym := ((hbo m).1 (Or.inl rfl)).2
  have yn := ((hbo m2).1 (Or.inr rfl)).2
  have em := vr_H2_e (g' := g') hH2 ym
  have en := vr_H2_e (g' := g') hH3 yn
  refine ⟨vr_nA s AR ((List.range n).map (fun i => xf (kf i))), vr_H1_G hE hG hM' hH1 hV, vr_nA_lt, ?_⟩
  have hnw : vx_nw (vr_S s g AR) (t.1 66 61, t.1 66 50, vr_ar t, (fun v => if v = m then some (rf_n (s.1 66 50).toNat 3 (s.1 66 61) .leaf .leaf, vr_e t g' m) else vr_bo s g v), vr_nA s AR ((List.range n).map (fun i => xf (kf i)))) m (s.1 66 50).toNat .leaf (vr_e t g' m) ((List.range n).map (fun i => xf (kf i))) ((List.range n).map (fun i => ((kf i : Nat) : Int))) := vr_nw_mk (row := row) i1 hE hH1 hm ho hH2 ym hkf hki rfl rfl rfl (fun _ => rfl) rfl
  have hgv : vx_gv (t.1 66 61, t.1 66 50, vr_ar t, (fun v => if v = m then some (rf_n (s.1 66 50).toNat 3 (s.1 66 61) .leaf .leaf, vr_e t g' m) else vr_bo s g v), vr_nA s AR ((List.range n).map (fun i => xf (kf i)))) (vr_S t g' (vr_nA s AR ((List.range n).map (fun i => xf (kf i))))) m2 (rf_n (s.1 66 50).toNat 3 (vr_S s g AR).1 .leaf .leaf) (vr_e t g' m2) := by
    refine ⟨⟨rfl, rfl, rfl, rfl⟩, ⟨?_, hm2.1, ?_⟩, fun v => ?_, ⟨⟨fun x hx => ?_, fun x hx => ?_, ?_⟩, (fun z => by cases z), rfl⟩, fun z => ?_⟩
    · show (if m2 = m then _ else vr_bo s g m2) = none
      rw [if_neg (fun z => hne z.symm)]
      exact vr_bo_no ho2
    · show m2 < t.1 66 61
      omega
    · show vr_bo t g' v = if v = m2 then _ else if v = m then _ else vr_bo s g v
      by_cases c : v = m2
      · rw [if_pos c, c]
        exact ((hbo m2).1 (Or.inr rfl)).1
      · rw [if_neg c]
        by_cases c3 : v = m
        · rw [if_pos c3, c3]
          exact ((hbo m).1 (Or.inl rfl)).1
        · rw [if_neg c3]
          exact (hbo v).2 (fun z => z.elim c3 c)
    · show 0 ≤ x ∧ x < t.1 66 61
      rcases hx with ⟨_, z⟩ | ⟨z, _⟩ | z
      · have z' : s.1 66 61 = x := z
        omega
      · exact absurd rfl z
      · exact z.elim
    · show (x : Int) < t.1 66 50
      rcases List.mem_cons.mp hx with z | z
      · omega
      · exact absurd z List.not_mem_nil
    · refine ⟨Or.inr ⟨rfl, ?_⟩, trivial⟩
      show ((vr_nA s AR ((List.range n).map (fun i => xf (kf i))) (s.1 66 50).toNat).length : Int) = vr_ar t (s.1 66 61)
      rw [har, if_pos rfl]
      unfold vr_nA
      rw [if_pos rfl, vr_gl]
    · show vr_e t g' m2 z < vr_ar t m2
      rw [vr_ar_at (by omega)]
      exact vr_e_lt i1 g' m2 z
  refine vr_join (vr_W hI hV) hnw hgv hm2 hL ?_ ?_ (vr_gn (fun i j hi hj q => hg3 i j (by omega) (by omega) q)) (fun x hx2 => ?_) (fun x hx2 => ?_) (fun x hx2 => ?_) (fun z hz => ?_) (fun z hz => ?_) (fun z i hi => ?_) (fun i z hi hz => ?_)
  · show (((List.range (rf_aa s m).toNat).map xf).length : Int) = vr_ar s m
    rw [vr_gl, vr_ar_at hm]
    omega
  · show (((List.range (rf_aa s m2).toNat).map yf).length : Int) = vr_ar s m2
    rw [vr_gl, vr_ar_at hm2]
    omega
  · obtain ⟨i, q1, q2⟩ := vr_gm.mp hx2
    rw [q2]
    exact (hxL i (by omega)).2
  · obtain ⟨i, q1, q2⟩ := vr_gm.mp hx2
    rw [q2]
    exact hyL i (by omega)
  · obtain ⟨i, q1, q2⟩ := vr_gm.mp hx2
    rw [q2]
    exact (hxL _ (hkf i q1)).2
  · obtain ⟨q, q1, q2, q3⟩ := em.2 z hz
    rw [q2, Int.toNat_natCast, vx_getD (vr_gr.mpr ⟨by omega, rfl⟩)]
    exact q3
  · obtain ⟨q, q1, q2, q3⟩ := en.2 z hz
    rw [q2, Int.toNat_natCast, vx_getD (vr_gr.mpr ⟨by omega, rfl⟩)]
    exact q3
  · obtain ⟨q1, q2⟩ := vr_gr.mp hi
    rw [q2]
    exact en.1 i (by omega)
  · obtain ⟨q1, q2⟩ := vr_gr.mp hi
    obtain ⟨q, q3, q4⟩ := vr_gm.mp hz
    obtain ⟨k, k1, k2⟩ := hkc i (by omega) ⟨q, by omega, by rw [← q2]; exact q4⟩
    exact vr_gm.mpr ⟨k, k1, by rw [k2]⟩
theorem c_v_join {sL : Nat} {sx : Nat → Int32} (hsL : sL ≤ 3072) (d : Nat) (hd : 120 ≤ d) : ∀ (NA NB : Int → rf_T → Prop) (A B : rf_N) (yA yB : rf_Y) (x : rf_T) (WA WB : List Nat) (pa pb p : Nat) (a ba b bb : Int) (s : sx_S) (g : rf_Gh) (AR : Nat → List Int) (K : Int → sx_S → Prop), cx_I s → rf_MI (s.1 66 71) (s.1 66 58) s g → rf_ph s g ≤ 1150 → rf_RM 0 s → vr_G s g AR → vr_t s AR A → vr_t s AR B → rf_CL s g NA A yA x WA pa a ba → rf_CL s g NB B yB x WB pb b bb → s.2.1 100 a.toNat = 3 → s.2.1 100 b.toNat = 3 → s.2.1 101 a.toNat ≠ s.2.1 101 b.toNat → s.2.1 111 (s.2.1 101 a.toNat).toNat = 0 → s.2.1 111 (s.2.1 101 b.toNat).toNat = 0 → (∀ z t, vr_PU s t g AR z p (vr_E AR A yA B yB (s.1 66 58)) → K z t) → sx_C sL sx d 197 [.inr (.inl 66), .inl a, .inl ba, .inl b, .inl bb] s K := by
  intro NA NB A B yA yB x WA WB pa pb p a ba b bb s g AR K hI hM hph hR hV tA tB kA kB hA3 hB3 hne ho ho2 hK
  obtain ⟨d, rfl⟩ : ∃ e, d = e + 2 := ⟨d - 2, by omega⟩
  have pA := rf_CL_b hI kA
  have pB := rf_CL_b hI kB
  obtain ⟨m0, m1, _⟩ := rf_CL_3 kA hA3
  obtain ⟨n0, n1, _⟩ := rf_CL_3 kB hB3
  obtain ⟨mm, hmm⟩ : ∃ m, m = s.2.1 101 a.toNat := ⟨_, rfl⟩
  obtain ⟨nn, hnn⟩ : ∃ m, m = s.2.1 101 b.toNat := ⟨_, rfl⟩
  have hPE : ∀ th, vx_So (vr_S s g AR) th → (vx_re (vx_ix ((List.range (rf_aa s mm).toNat).map (rf_vo s yA a)) (s.1 66 58)) (th mm) = vx_re (vx_ix ((List.range (rf_aa s nn).toNat).map (rf_vo s yB b)) (s.1 66 58)) (th nn) ↔ vr_E AR A yA B yB (s.1 66 58) th) := fun th hS => by
    unfold vr_E
    rw [vr_E_3 kA hA3 hmm tA (fun m => (hS.1 m).1), vr_E_3 kB hB3 hnn tB (fun m => (hS.1 m).1)]
  have r58 := hI.fld 66 58 (by decide) rfl
  rw [← hmm] at m0 m1 ho
  rw [← hnn] at n0 n1 ho2
  rw [← hmm, ← hnn] at hne
  have hR2 := hR
  obtain ⟨q1, q2, q3, q4, q5, q6⟩ := hR
  have r108 := hI.arr 108 (by decide) rfl mm.toNat
  have r108b := hI.arr 108 (by decide) rfl nn.toNat
  have r56 := hI.fld 66 56 (by decide) rfl
  have r61 := hI.fld 66 61 (by decide) rfl
  have r50 := hI.fld 66 50 (by decide) rfl
  have r64 := hI.fld 66 64 (by decide) rfl
  have ram : rf_aa s mm = s.2.1 108 mm.toNat := rfl
  have ran : rf_aa s nn = s.2.1 108 nn.toNat := rfl
  have yA4 := kA.1.2.2.2
  have yB4 := kB.1.2.2.2
  have dA : rf_dp yA ≤ 100 := by have := yA4.2.2.2; omega
  have dB : rf_dp yB ≤ 100 := by have := yB4.2.2.2; omega
  refine sx_methL (wr := true) (n := 400) (n' := 400) (stop := [(62, [0, 5, 6, 7, 8, 9, 10, 11]), (80, [0, 5, 6, 7, 8, 9, 10, 11, 12, 13])]) (fun ms pc ls u => (pc = 62 ∧ ∃ (x5 x6 x7 x8 x9 x10 x11 : Int) (w : sx_S) (kf kg : Nat → Nat) (c : Nat), ls = [(0, .inr (.inl 66)), (5, .inl x5), (6, .inl x6), (7, .inl x7), (8, .inl x8), (9, .inl x9), (10, .inl x10), (11, .inl x11)] ∧ (x7 = mm ∧ x8 = nn) ∧ vr_JB s w yA yB a b mm nn x5 x6 ∧ (rf_JW w u mm nn x5 x6 x9 x10 x11 kf kg c ∧ vr_JC w nn x5 x6 x11 kf c) ∧ ms = (10 * (4 - x11) + 9).toNat) ∨ (pc = 80 ∧ ∃ (x5 x6 x7 x8 x9 x10 x11 x12 x13 : Int) (w : sx_S) (kf kg : Nat → Nat) (c : Nat), ls = [(0, .inr (.inl 66)), (5, .inl x5), (6, .inl x6), (7, .inl x7), (8, .inl x8), (9, .inl x9), (10, .inl x10), (11, .inl x11), (12, .inl x12), (13, .inl x13)] ∧ (x7 = mm ∧ x8 = nn) ∧ vr_JB s w yA yB a b mm nn x5 x6 ∧ (rf_JW w u mm nn x5 x6 x9 x10 x11 kf kg c ∧ vr_JC w nn x5 x6 x11 kf c) ∧ x11 < w.2.1 108 mm.toNat ∧ (0 ≤ x12 ∧ x12 ≤ 1) ∧ (0 ≤ x13 ∧ x13 ≤ w.2.1 108 nn.toNat) ∧ (x12 ≠ 0 → ∃ q : Nat, (q : Int) < w.2.1 108 nn.toNat ∧ w.2.1 105 (x5 + x11).toNat = w.2.1 105 (x6 + (q : Int)).toNat) ∧ (x12 = 0 → ∀ q : Nat, (q : Int) < x13 → w.2.1 105 (x5 + x11).toNat ≠ w.2.1 105 (x6 + (q : Int)).toNat) ∧ ms = (10 * (4 - x11) + (4 - x13)).toNat)) hsL (e := eX12_join) rfl ?_ ?_
  · refine w_join (PA := fun z t => cx_I t ∧ cx_F [(66, 66), (105, 105)] s t ∧ rf_f [56] s t ∧ z = s.1 66 56 ∧ t.1 66 56 = s.1 66 56 + s.2.1 108 mm.toNat ∧ rf_ag 105 105 (s.1 66 56) s t ∧ (∀ k : Nat, (k : Int) < s.2.1 108 mm.toNat → t.2.1 105 (z + (k : Int)).toNat = rf_vo s yA a k)) (PB := fun z t z2 w => vr_JB s w yA yB a b mm nn z z2 ∧ w.2.1 101 = s.2.1 101) (PN := fun z2 w z3 t => (w.1 66 50 ≤ 59990 ∧ 0 ≤ w.1 66 50 ∧ 0 ≤ w.1 66 61 ∧ w.1 66 61 ≤ 2990) ∧ cx_I t ∧ cx_F [(66, 66), (108, 109), (111, 111), (124, 124)] w t ∧ z3 = w.1 66 61 ∧ t.1 66 61 = w.1 66 61 + 1 ∧ rf_f [61] w t ∧ rf_ag 108 111 (w.1 66 61) w t ∧ t.2.1 108 z3.toNat = 0 ∧ t.2.1 109 z3.toNat = w.1 66 64 ∧ t.2.1 111 z3.toNat = 0) (PM := fun z3 t3 z4 t4 => (0 ≤ z4 ∧ z4 ≤ 59999) ∧ cx_I t4 ∧ cx_F [(66, 66), (100, 103)] t3 t4 ∧ z4 = t3.1 66 50 ∧ t4.1 66 50 = t3.1 66 50 + 1 ∧ rf_f [50] t3 t4 ∧ rf_ag 100 103 (t3.1 66 50) t3 t4 ∧ rf_mk t4 z4 3 z3) pA pB ?_ ?_ ?_ ?_ ?_ ?_ ?_
    · intro K' hK'
      exact c_r_actual hsL 100 (d + 1) (by omega) yA a ba (s.2.1 108 mm.toNat) s K' hI pA (by omega) (by rw [hmm]) (by omega) (fun k hk => by omega) dA yA4.1 (fun z t c1 c2 c3 c4 c5 c6 c7 => hK' z t ⟨c1, c2, c3, c4, c5, c6, c7⟩)
    · rintro z t ⟨c1, c2, c3, c4, c5, c6, c7⟩ K' hK'
      obtain ⟨hE, hFS⟩ := rf_EX_row (nb := s.1 66 71) (ib := s.1 66 58) c2 c3 c6 (by omega)
      have hNC : rf_NC s t := rf_NC_F c2 rfl c3 rfl
      have e50 := c3 50 rfl
      have e58 := c3 58 rfl
      have e61 := c3 61 rfl
      have e64 := c3 64 rfl
      have e70 := c3 70 rfl
      have e71 := c3 71 rfl
      have t108 : t.2.1 108 = s.2.1 108 := (c2.same 108 rfl).2
      have t104 : t.2.1 104 = s.2.1 104 := (c2.same 104 rfl).2
      have t101 : t.2.1 101 = s.2.1 101 := (c2.same 101 rfl).2
      have hMt : rf_MI (t.1 66 71) (t.1 66 58) t g := rf_NC_MI hE hNC (by omega) (by omega) hM
      obtain ⟨z1, z2, z3, z4⟩ := rf_act_ok hM kA hA3 hmm ho c2 c3 c4 c5 c6 c7 r108.1 r56.1
      have kB2 := rf_CL_up hE (by omega) (by omega) (rf_EG_refl s g) hM.ub kB
      have hB3t : t.2.1 100 b.toNat = 3 := by rw [(c2.same 100 rfl).2]; exact hB3
      refine c_r_actual hsL 100 (d + 1) (by omega) yB b bb (s.2.1 108 nn.toNat) t K' c1 pB (by rw [t101]; omega) (by rw [t108, t101, hnn]) (by omega) (fun k hk => by rw [t104]; omega) dB kB2.1.2.2.2.1 (fun z2' w f1 f2 f3 f4 f5 f6 f7 => hK' z2' w ⟨?_, by rw [(f2.same 101 rfl).2, t101]⟩)
      obtain ⟨hE2, hFS2⟩ := rf_EX_row (nb := t.1 66 71) (ib := t.1 66 58) f2 f3 f6 (by omega)
      have hNC2 : rf_NC t w := rf_NC_F f2 rfl f3 rfl
      obtain ⟨y1, y2, y3, y4⟩ := rf_act_ok (m := nn) hMt kB2 hB3t (by rw [t101]; exact hnn) (by rw [(c2.same 111 rfl).2]; exact ho2) f2 f3 f4 (by rw [t108]; exact f5) f6 (by rw [t108]; exact f7) (by rw [t108]; exact r108b.1) (by omega)
      have w108 : w.2.1 108 = t.2.1 108 := (f2.same 108 rfl).2
      have ewm : rf_aa w mm = rf_aa t mm := by unfold rf_aa; rw [w108]
      have g58 := f3 58 rfl
      have g105 : ∀ q : Nat, (q : Int) < rf_aa t mm → w.2.1 105 (z + (q : Int)).toNat = t.2.1 105 (z + (q : Int)).toNat := fun q hq => f6 105 _ (by omega) (by omega) (by omega)
      refine ⟨⟨⟨f1, rf_EX_trans hE2 hE (by omega) (by omega), ⟨hNC2.1.trans hNC.1, fun j hj => (hNC2.2 j (by omega)).trans (hNC.2 j hj)⟩, rf_FS_trans hFS2 hFS⟩, ⟨(f3 71 rfl).trans e71, g58.trans e58, (f3 70 rfl).trans e70, (f3 50 rfl).trans e50, (f3 61 rfl).trans e61, (f3 64 rfl).trans e64, by omega, w108.trans t108⟩, ⟨⟨z2.1, by rw [ewm]; omega⟩, fun q hq => ?_, fun p q hp hq e => ?_⟩, ⟨y2, y3, y4⟩⟩, fun q hq => ?_, fun q hq => ?_⟩
      · rw [ewm] at hq
        obtain ⟨T, t1, t2⟩ := z3 q hq
        rw [g105 q hq, g58]
        exact ⟨T, hE2.pt z1.1 (by omega) t1, (hE2.vb (Int.le_refl _) _ _).mpr t2⟩
      · rw [ewm] at hp hq
        rw [g105 p hp, g105 q hq] at e
        exact z4 p q hp hq e
      · rw [ewm] at hq
        rw [g105 q hq]
        refine c7 q ?_
        have : rf_aa t mm = s.2.1 108 mm.toNat := by unfold rf_aa; rw [t108]
        omega
      · have hq2 : (q : Int) < s.2.1 108 nn.toNat := by
          have : rf_aa w nn = s.2.1 108 nn.toNat := by unfold rf_aa; rw [w108, t108]
          omega
        rw [f7 q hq2]
        unfold rf_vo
        rw [t104, c6 105 _ (by omega) (by omega) (by omega)]
    · rintro z t z2 w _ ⟨⟨hJ, _⟩, _⟩
      exact hJ.1.1
    · rintro z t z2 w _ ⟨⟨hJ, _⟩, _⟩ K' hK'
      obtain ⟨⟨w1, _⟩, ⟨_, _, _, w50, w61, _⟩, _⟩ := hJ
      exact c_r_newMeta hsL (d + 1) (by omega) w K' w1 (by omega) (fun z3 t3 c1 c2 c3 c4 c5 c6 c7 c8 c9 => hK' z3 t3 ⟨by omega, c1, c2, c3, c4, c5, c6, c7, c8, c9⟩)
    · rintro z2 w z3 t3 ⟨c0, c1, c2, c3, c4, c5, c6, c7, c8, c9⟩ K' hK'
      have := c5 50 rfl
      exact c_r_make hsL (d + 1) (by omega) 3 z3 t3 K' c1 (by omega) (by omega) (by omega) (fun z4 t4 e1 e2 e3 e4 e5 e6 e7 => hK' z4 t4 ⟨by omega, e1, e2, e3, e4, e5, e6, e7⟩)
    · rintro z3 t3 z4 t4 ⟨c0, c1, _⟩
      exact ⟨c1, c0⟩
    · rintro z t z2 w z3 t3 z4 t4 _ ⟨hJ, hw101⟩ ⟨c0, c1, c2, c3, c4, c5, c6, c7, c8, c9⟩ ⟨e0, e1, e2, e3, e4, e5, e6, e7⟩ m n v hm hn hv
      have := c5 50 rfl
      refine ⟨_, Or.inl ⟨rfl, z, z2, m, n, z3, z4, 0, w, (fun _ => 0), (fun _ => 0), 0, rfl, ⟨by rw [hm, hw101, hmm], by rw [hn, hw101, hnn]⟩, hJ, ⟨⟨rf_KW_0 (by omega) (by omega) c2 c3 c4 c5 c6 c7 c8 c9 e1 e2 e3 e4 e5 e6 e7 hv, ⟨c3, by omega⟩, ⟨by omega, (hJ.1.1.1.arr 108 (by decide) rfl mm.toNat).1⟩, fun i hi => absurd hi (Nat.not_lt_zero _), fun i j hi => absurd hi (Nat.not_lt_zero _), by omega⟩, fun j hj => absurd hj (by omega)⟩, rfl⟩⟩
  · rintro ms pc ls u (⟨rfl, x5, x6, x7, x8, x9, x10, x11, w, kf, kg, c, rfl, ⟨h7, h8⟩, ⟨hJ, hJx, hJy⟩, ⟨hW, hJC⟩, rfl⟩ | ⟨rfl, x5, x6, x7, x8, x9, x10, x11, x12, x13, w, kf, kg, c, rfl, ⟨h7, h8⟩, ⟨hJ, hJx, hJy⟩, ⟨hW, hJC⟩, h11, h12, h13, hc, hcn, rfl⟩)
    · have hJ2 := hJ
      obtain ⟨⟨w1, w2, w3, w4⟩, ⟨w71, w58, w70, w50, w61, w64, w56, w108⟩, ⟨⟨a1, a2⟩, a3, a4⟩, ⟨⟨b1, b2⟩, b3, b4⟩⟩ := hJ
      have hW2 := hW
      obtain ⟨hKW, ⟨h9, h10⟩, hx11, hkf, hki, hcx⟩ := hW
      have hKW2 := hKW
      obtain ⟨⟨u1, u2, u3⟩, ⟨u50, u61, u56, u64⟩, ⟨ag1, ag2, ag3, ag4, ag5⟩, _⟩ := hKW
      have eu : u.2.1 108 mm.toNat = w.2.1 108 mm.toNat := ag3 108 _ (by omega) (by omega) (by omega)
      have e1 : rf_aa w mm = w.2.1 108 mm.toNat := rfl
      have e2 : rf_aa w nn = w.2.1 108 nn.toNat := rfl
      rw [h7, h8]
      have r1 := w1.arr 108 (by decide) rfl mm.toNat
      have r2 := w1.arr 108 (by decide) rfl nn.toNat
      have u70 := u3 70 rfl
      refine w_join_62 (PA := fun t => w.2.1 108 mm.toNat ≤ x11 ∧ rf_AS u t mm x5 x10 (-1)) (PB := fun t => vr_PU s t g AR 1 p (vr_E AR A yA B yB (s.1 66 58))) u1 (by omega) (by omega) ?_ ?_ ?_ ?_
      · intro q K' hK'
        exact c_r_assign hsL (d + 1) (by omega) mm x5 x10 (-1) u K' u1 (by omega) (by omega) (by omega) (by omega) (by omega) (fun z t g1 g2 g3 g4 g5 g6 => hK' z t ⟨by omega, g1, g2, g3, g4, g5, g6⟩)
      · rintro v ⟨hx, hA⟩ K' hK'
        have hA' := hA
        obtain ⟨v1, v2, v3, v4, _⟩ := hA'
        refine c_r_assign hsL (d + 1) (by omega) nn x6 x10 (-1) v K' v1 (by omega) (by omega) (by omega) (by omega) (by omega) (fun z t g1 g2 g3 g4 g5 g6 => hK' z t ?_)
        have hA2 : rf_AS v t nn x6 x10 (-1) := ⟨g1, g2, g3, g4, g5, g6⟩
        have hMw : rf_MI (w.1 66 71) (w.1 66 58) w g := rf_NC_MI w2 w3 (by omega) (by omega) hM
        rw [h10] at hA hA2
        obtain ⟨hE2, g', k1, k2, k3, k4, k5⟩ := rf_MI_join (nb := w.1 66 71) (ib := w.1 66 58) w1 hMw (by omega) (by omega) hne (by rw [w3.2 _ (by omega)]; exact ho) (by rw [w3.2 _ (by omega)]; exact ho2) (by omega) ⟨a1, a2⟩ ⟨b1, b2⟩ a3 a4 b3 b4 hKW2 (fun i hi => by have := (hkf i hi).1; omega) (fun i hi => (hkf i hi).2) hki (by omega) hA hA2
        have hVw : vr_G w g AR := vr_G_up w2 (rf_EG_refl _ _) w3 (fun _ _ => rfl) hV
        have eS : vr_S w g AR = vr_S s g AR := vr_S_NC w2 w3 w50 hM
        have ewm : rf_aa w mm = rf_aa s mm := by unfold rf_aa; rw [w108]
        have ewn : rf_aa w nn = rf_aa s nn := by unfold rf_aa; rw [w108]
        obtain ⟨AR', hG2, hA3', hYs⟩ := vr_joinS (AR := AR) (L := s.1 66 58) (xf := rf_vo s yA a) (yf := rf_vo s yB b) w1 hE2 hMw k1 k2 hVw (by omega) (by omega) hne (by rw [w3.2 _ (by omega)]; exact ho) (by rw [w3.2 _ (by omega)]; exact ho2) ⟨a1, a2⟩ ⟨b1, b2⟩ hJx hJy (fun p q hp hq e => a4 p q hp hq (by rw [hJx p hp, hJx q hq]; exact e)) (fun p q hp hq e => b4 p q hp hq (by rw [hJy p hp, hJy q hq]; exact e)) r58.1 (fun q hq => vr_vo_in kA hA3 hmm (by omega)) (fun q hq => vr_vo_in kB hB3 hnn (by omega)) hKW2 (fun i hi => by have := (hkf i hi).1; omega) hki (fun j hj ⟨q, q1, q2⟩ => hJC j (by omega) ⟨q, q1, by rw [hJx j hj, hJy q q1]; exact q2⟩) hA hA2
        rw [eS, ewm, ewn] at hYs
        have hYs := vr_Y_cg (vr_W hI hV) hPE hYs
        have f71 := u3 71 rfl
        have f58 := u3 58 rfl
        have h71 := v3 71 rfl
        have h58 := v3 58 rfl
        have i71 := g3 71 rfl
        have i58 := g3 58 rfl
        have hqu : rf_qu w = rf_qu s := rf_NC_qu w2 w3
        refine vr_PU_1 (AR := AR) g1 (rf_FS_trans (rf_FS_AS hA2) (rf_FS_trans (rf_FS_KA hKW2 hA) w4)) ?_ (rf_EX_trans hE2 w2 (by omega) (by omega)) (rf_EG_trans w2 k2 (rf_EG_refl _ _)) ?_ (k5 ?_) (by omega) (by omega) (by omega) (by omega) hG2 (fun j hj => hA3' j (by omega)) hYs
        · rw [show t.1 66 71 = w.1 66 71 by omega, show t.1 66 58 = w.1 66 58 by omega]
          exact k1
        · have := rf_NC_ph (g := g) w2 w3
          omega
        · exact ⟨by omega, by omega, by omega, by omega, by omega, by omega⟩
      · intro t ht
        exact hK 1 t ht
      · intro hx
        exact ⟨_, by omega, Or.inr ⟨rfl, x5, x6, mm, nn, x9, x10, x11, 0, 0, w, kf, kg, c, rfl, ⟨rfl, rfl⟩, ⟨hJ2, hJx, hJy⟩, ⟨hW2, hJC⟩, by omega, by omega, by omega, fun q => absurd rfl q, fun _ q hq => absurd hq (by omega), rfl⟩⟩
    · have hJ2 := hJ
      obtain ⟨⟨w1, w2, w3, w4⟩, ⟨w71, w58, w70, w50, w61, w64, w56, w108⟩, ⟨⟨a1, a2⟩, a3, a4⟩, ⟨⟨b1, b2⟩, b3, b4⟩⟩ := hJ
      have hW2 := hW
      obtain ⟨hKW, ⟨h9, h10⟩, hx11, hkf, hki, hcx⟩ := hW
      have hKW2 := hKW
      obtain ⟨⟨u1, u2, u3⟩, ⟨u50, u61, u56, u64⟩, ⟨ag1, ag2, ag3, ag4, ag5⟩, _, ⟨f1, f2, f3⟩, _⟩ := hKW
      have eum : u.2.1 108 mm.toNat = w.2.1 108 mm.toNat := ag3 108 _ (by omega) (by omega) (by omega)
      have eun : u.2.1 108 nn.toNat = w.2.1 108 nn.toNat := ag3 108 _ (by omega) (by omega) (by omega)
      have eu9 : u.2.1 109 mm.toNat = w.2.1 109 mm.toNat := ag3 109 _ (by omega) (by omega) (by omega)
      have e1 : rf_aa w mm = w.2.1 108 mm.toNat := rfl
      have e2 : rf_aa w nn = w.2.1 108 nn.toNat := rfl
      rw [h7, h8]
      have r1 := w1.arr 108 (by decide) rfl mm.toNat
      have r2 := w1.arr 108 (by decide) rfl nn.toNat
      have r9 := w1.arr 109 (by decide) rfl mm.toNat
      have ex : ((x11.toNat : Nat) : Int) = x11 := by omega
      obtain ⟨T0, t0, _⟩ := a3 x11.toNat (by omega)
      have t0 := t0.1.2
      rw [ex] at t0
      have eA : u.2.1 105 (x5 + x11).toNat = w.2.1 105 (x5 + x11).toNat := ag2 105 _ (by omega) (by omega) (by omega)
      refine w_vjoin_80 (PT := fun t => (w.2.1 108 nn.toNat ≤ x13 ∧ x12 ≠ 0) ∧ cx_I t ∧ cx_F [(66, 66), (108, 108), (110, 110)] u t ∧ rf_f [64] u t ∧ t.1 66 64 = u.1 66 64 + 1 ∧ rf_ag 110 110 (u.1 66 64) u t ∧ t.2.1 110 (u.1 66 64).toNat = w.2.1 110 (w.2.1 109 mm.toNat + x11).toNat ∧ rf_ro 108 108 x9 u t ∧ t.2.1 108 x9.toNat = u.2.1 108 x9.toNat + 1) u1 (by omega) (by omega) (by omega) (by omega) (by omega) (by omega) h12 (by omega) (by omega) ?_ ?_ ?_ ?_ ?_
      · intro hx cc y hcc hc1 hc0 hy
        refine ⟨_, by omega, Or.inr ⟨rfl, x5, x6, mm, nn, x9, x10, x11, cc, y, w, kf, kg, c, rfl, ⟨rfl, rfl⟩, ⟨hJ2, hJx, hJy⟩, ⟨hW2, hJC⟩, h11, hcc, by omega, fun q => ?_, fun z q hq => ?_, rfl⟩⟩
        · rcases hc1 (by omega) with z | z
          · exact hc z
          · refine ⟨x13.toNat, by omega, ?_⟩
            rw [Int.toNat_of_nonneg h13.1, ← eA, z]
            exact ag2 105 _ (by omega) (by omega) (by omega)
        · obtain ⟨y1, y2⟩ := hc0 z
          by_cases cq : (q : Int) = x13
          · rw [cq, ← eA]
            have e3 : u.2.1 105 (x6 + x13).toNat = w.2.1 105 (x6 + x13).toNat := ag2 105 _ (by omega) (by omega) (by omega)
            rw [← e3]
            exact y2
          · exact hcn y1 q (by omega)
      · intro hx h120 y hy
        refine ⟨_, by omega, Or.inl ⟨rfl, x5, x6, mm, nn, x9, x10, y, w, kf, kg, c, rfl, ⟨rfl, rfl⟩, ⟨hJ2, hJx, hJy⟩, ⟨⟨hKW2, ⟨h9, h10⟩, by omega, fun i hi => ⟨by have := (hkf i hi).1; omega, (hkf i hi).2⟩, hki, by omega⟩, fun j hj hq => ?_⟩, rfl⟩⟩
        by_cases cj : (j : Int) = x11
        · obtain ⟨q, qa, qb⟩ := hq
          rw [cj] at qb
          exact absurd qb (hcn h120 q (by omega))
        · exact hJC j (by omega) hq
      · intro hx hq v hv K' hK'
        have hv2 : v = w.2.1 110 (w.2.1 109 mm.toNat + x11).toNat := by
          rw [hv, eu9]
          exact ag4 110 _ (by omega) (by omega) (by omega)
        have hr := w1.arr 110 (by decide) rfl (w.2.1 109 mm.toNat + x11).toNat
        exact c_r_addType hsL (d + 1) (by omega) x9 v u K' u1 (by omega) (by omega) (by omega) (by rw [h9, f1]; omega) (fun z t g1 g2 g3 g4 g5 g6 g7 g8 => hK' z t ⟨⟨by omega, hq⟩, g1, g2, g3, g4, g5, by rw [g6]; exact hv2, g7, g8⟩)
      · rintro t ⟨_, g1, g2, g3, g4, g5, g6, g7, g8⟩
        have := g3 56 rfl
        exact ⟨g1, by omega⟩
      · rintro hx hq t ⟨_, g1, g2, g3, g4, g5, g6, g7, g8⟩ y v n' ww hy hv hn' hww
        have q56 := g3 56 rfl
        have hv2 : v = w.2.1 105 (x5 + x11).toNat := by
          rw [hv, (g2.same 105 rfl).2]
          exact eA
        obtain ⟨qq, qq1, qq2⟩ := hc hq
        refine ⟨_, by omega, Or.inl ⟨rfl, x5, x6, mm, nn, x9, x10, y, w, (fun i => if i = c then x11.toNat else kf i), (fun i => if i = c then qq else kg i), c + 1, rfl, ⟨rfl, rfl⟩, ⟨hJ2, hJx, hJy⟩, ⟨⟨rf_KW_s (k := x11.toNat) (by omega) (by omega) (by omega) h9 hKW2 g1 g2 g3 g4 g5 g6 g7 g8 (by rw [ex]) (by rw [ex]; exact hv2) (by rw [hv]; exact g1.arr 105 (by decide) rfl _) hn' hww (by omega), ⟨h9, h10⟩, by omega, fun i hi => ?_, fun i j hi hj e => ?_, by push_cast; omega⟩, fun j hj hq2 => ?_⟩, rfl⟩⟩
        · dsimp only
          by_cases ci : i = c
          · rw [if_pos ci, if_pos ci, ex]
            exact ⟨by omega, qq1, qq2⟩
          · rw [if_neg ci, if_neg ci]
            have := hkf i (by omega)
            exact ⟨by omega, this.2⟩
        · dsimp only at e
          by_cases ci : i = c
          · by_cases cj : j = c
            · omega
            · rw [if_pos ci, if_neg cj] at e
              have := (hkf j (by omega)).1
              omega
          · by_cases cj : j = c
            · rw [if_neg ci, if_pos cj] at e
              have := (hkf i (by omega)).1
              omega
            · rw [if_neg ci, if_neg cj] at e
              exact hki i j (by omega) (by omega) e
        · try dsimp only
          by_cases cj : (j : Int) = x11
          · exact ⟨c, by omega, by rw [if_pos rfl]; omega⟩
          · obtain ⟨i, k1, k2⟩ := hJC j (by omega) hq2
            exact ⟨i, by omega, by rw [if_neg (by omega)]; exact k2⟩
end
section
/-! ===== the reference: fits, and the solutions ===== -/
/-- what fits leaves -/
def vr_PF (nb mark : Int) (s t : sx_S) (g : rf_Gh) (AR : Nat → List Int) (z m row : Int) (A : rf_N) (y : rf_Y) (W : List Nat) : Prop := (0 ≤ z ∧ z ≤ 1) ∧ cx_I t ∧ rf_FS s t ∧ (z = 0 → vr_N (vr_S s g AR) (vr_K (rf_gv s m row mark) m AR A y (s.1 66 58))) ∧ (z ≠ 0 → ∃ (g' : rf_Gh) (AR' : Nat → List Int), rf_MI nb mark t g' ∧ rf_EX (s.1 66 71) (s.1 66 58) s t ∧ rf_EG s g g' ∧ (rf_ph t g' ≤ 1150 ∧ rf_RM 4 t ∧ rf_qu t ≤ rf_qu s) ∧ (s.1 66 71 ≤ t.1 66 71 ∧ s.1 66 58 ≤ t.1 66 58) ∧ t.2.1 111 m.toNat = 0 ∧ (∀ v, (rf_fo (rf_Wd t g'.2.2) A).1 v → rf_gv s m row mark (rf_look y v)) ∧ (∀ x, (rf_oc A).1 x → x ≠ m ∧ ¬ rf_rc (rf_Ed t g') x m) ∧ rf_clo t g' W m ∧ (∀ x, rf_rc (rf_Ed t g') x m → rf_rc (rf_Ed s g) x m) ∧ vr_G t g' AR' ∧ (∀ j : Nat, (j : Int) < s.1 66 50 → AR' j = AR j) ∧ vr_Z (vr_S s g AR) (vr_S t g' AR') (vr_K (rf_gv s m row mark) m AR A y (s.1 66 58)))
theorem vr_PF_same {nb mark : Int} {s : sx_S} {g : rf_Gh} {AR : Nat → List Int} {m row : Int} {A : rf_N} {y : rf_Y} {W : List Nat} (hI : cx_I s) (hM : rf_MI nb mark s g) (hp : rf_ph s g ≤ 1150) (hR : rf_RM 4 s) (hV : vr_G s g AR) (ho : s.2.1 111 m.toNat = 0) (hf : ∀ v, (rf_fo (rf_Wd s g.2.2) A).1 v → rf_gv s m row mark (rf_look y v)) (hx : ∀ x, (rf_oc A).1 x → x ≠ m ∧ ¬ rf_rc (rf_Ed s g) x m) (hc : rf_clo s g W m) : vr_PF nb mark s s g AR 1 m row A y W := ⟨by omega, hI, rf_FS_refl s, fun q => absurd q (by decide), fun _ => ⟨g, AR, hM, rf_EX_refl _ _ _, rf_EG_refl _ _, ⟨hp, hR, Nat.le_refl _⟩, ⟨Int.le_refl _, Int.le_refl _⟩, ho, hf, hx, hc, fun _ h => h, hV, fun _ _ => rfl, vr_Z_refl⟩⟩
theorem vr_PF_0 {nb mark : Int} {s t : sx_S} {g : rf_Gh} {AR : Nat → List Int} {m row : Int} {A : rf_N} {y : rf_Y} {W : List Nat} (hI : cx_I t) (hF : rf_FS s t) (hN : vr_N (vr_S s g AR) (vr_K (rf_gv s m row mark) m AR A y (s.1 66 58))) : vr_PF nb mark s t g AR 0 m row A y W := ⟨by omega, hI, hF, fun _ => hN, fun q => absurd rfl q⟩
theorem vr_K_al {al al' : Int → Prop} (ha : ∀ w, al w → al' w) {m : Int} {AR : Nat → List Int} {A : rf_N} {y : rf_Y} {L : Int} {th : Int → rf_N} (k : vr_K al m AR A y L th) : vr_K al' m AR A y L th := ⟨fun w hw => ha w (k.1 w hw), k.2⟩
theorem vr_PF_pre {nb mark : Int} {s s1 t : sx_S} {g : rf_Gh} {AR : Nat → List Int} {z m row : Int} {A A1 : rf_N} {y y1 : rf_Y} {W W1 : List Nat} (hE : rf_EX (s.1 66 71) (s.1 66 58) s s1) (hN : rf_NC s s1) (hF : rf_FS s s1) (hn : s.1 66 71 ≤ s1.1 66 71) (hi : s.1 66 58 ≤ s1.1 66 58) (h50 : s1.1 66 50 = s.1 66 50) (hMI : rf_MI nb mark s g) (hnb : nb ≤ s.1 66 71) (hmk : mark ≤ s.1 66 58) (hm : 0 ≤ m ∧ m < s.1 66 61) (hrow : 0 ≤ row ∧ row + rf_aa s m ≤ s.1 66 56) (hKK : ∀ th, vx_So (vr_S s g AR) th → vr_K (rf_gv s m row mark) m AR A y (s.1 66 58) th → vr_K (rf_gv s m row mark) m AR A1 y1 (s1.1 66 58) th) (h : vr_PF nb mark s1 t g AR z m row A1 y1 W1) (hc : ∀ g' : rf_Gh, rf_MI nb mark t g' → rf_EX (s.1 66 71) (s.1 66 58) s t → rf_EG s g g' → (∀ v, (rf_fo (rf_Wd t g'.2.2) A1).1 v → rf_gv s m row mark (rf_look y1 v)) → (∀ x, (rf_oc A1).1 x → x ≠ m ∧ ¬ rf_rc (rf_Ed t g') x m) → rf_clo t g' W1 m → (∀ x, rf_rc (rf_Ed t g') x m → rf_rc (rf_Ed s g) x m) → ∃ g2 : rf_Gh, rf_MI nb mark t g2 ∧ g2.1 = g'.1 ∧ rf_EG t g' g2 ∧ (∀ v, (rf_fo (rf_Wd t g2.2.2) A).1 v → rf_gv s m row mark (rf_look y v)) ∧ (∀ x, (rf_oc A).1 x → x ≠ m ∧ ¬ rf_rc (rf_Ed t g') x m) ∧ rf_clo t g' W m) : vr_PF nb mark s t g AR z m row A y W := by
  obtain ⟨h1, h2, h3, h0, h4⟩ := h
  have eS : vr_S s1 g AR = vr_S s g AR := vr_S_NC (rf_EX_le hE hnb hmk) hN h50 hMI
  have hKK2 : ∀ th, vx_So (vr_S s g AR) th → vr_K (rf_gv s m row mark) m AR A y (s.1 66 58) th → vr_K (rf_gv s1 m row mark) m AR A1 y1 (s1.1 66 58) th := fun th hS k => vr_K_al (fun w hw => (rf_gv_up hE hm hrow).mpr hw) (hKK th hS k)
  refine ⟨h1, h2, rf_FS_trans h3 hF, fun hz => ?_, fun hz => ?_⟩
  · have := h0 hz
    rw [eS] at this
    exact vr_N_cg hKK2 this
  obtain ⟨g', AR', k1, k2, k3, ⟨k4, k5, k6⟩, ⟨k7, k8⟩, k9, k10, k11, k12, k13, k14, k15, k16⟩ := h4 hz
  have hE2 := rf_EX_trans k2 hE hn hi
  have hG := rf_EG_trans hE k3 (rf_EG_refl s g)
  have hback : ∀ x, rf_rc (rf_Ed t g') x m → rf_rc (rf_Ed s g) x m := fun x q => (rf_rc_NC hN).mp (k13 x q)
  obtain ⟨g2, j1, j2, j3, j4, j5, j6⟩ := hc g' k1 hE2 hG (fun v hv => (rf_gv_up hE hm hrow).mp (k10 v hv)) k11 k12 hback
  have eEd : rf_Ed t g2 = rf_Ed t g' := by
    funext a b
    unfold rf_Ed
    rw [j2]
  have ephi : rf_ph t g2 = rf_ph t g' := rf_ph_same rfl (fun _ _ => ⟨rfl, rfl⟩) (fun j _ _ => by rw [j2])
  have hq := rf_NC_qu hE hN
  refine ⟨g2, AR', j1, hE2, rf_EG_trans hE2 j3 hG, ⟨by omega, k5, by omega⟩, ⟨by omega, by omega⟩, k9, j4, fun x hx => by rw [eEd]; exact j5 x hx, ?_, fun x q => by rw [eEd] at q; exact hback x q, fun x x0 x1 x2 => by rw [j2]; exact k14 x x0 x1 x2, fun j hj => k15 j (by omega), ?_⟩
  · intro x hx q
    rw [eEd]
    exact j6 x hx q
  · rw [vr_S_EG j3]
    rw [eS] at k16
    exact vr_Z_cg hKK2 k16
def vr_FT (sL : Nat) (sx : Nat → Int32) (P d : Nat) : Prop := ∀ (N : Int → rf_T → Prop) (A : rf_N) (y : rf_Y) (x : rf_T) (W : List Nat) (p : Nat) (i b m row mark nb : Int) (s : sx_S) (g : rf_Gh) (AR : Nat → List Int) (K : Int → sx_S → Prop), cx_I s → rf_MI nb mark s g → nb ≤ s.1 66 71 → (0 ≤ mark ∧ mark ≤ s.1 66 58) → rf_ph s g ≤ 1150 → rf_RM 4 s → vr_G s g AR → vr_t s AR A → rf_CL s g N A y x W p i b → p ≤ P → (0 ≤ m ∧ m < s.1 66 61) → s.2.1 111 m.toNat = 0 → (0 ≤ row ∧ row + rf_aa s m ≤ s.1 66 56) → rf_clo s g W m → s.1 66 71 + (p : Int) ≤ 399900 → s.1 66 58 + (p : Int) ≤ 399900 → (∀ z t, vr_PF nb mark s t g AR z m row A y W → K z t) → sx_C sL sx d 200 [.inr (.inl 66), .inl i, .inl b, .inl m, .inl row, .inl mark] s K
/-- under a \ -/
theorem vr_ft_lam {sL : Nat} {sx : Nat → Int32} {P d : Nat} (ih : vr_FT sL sx P d) {N : Int → rf_T → Prop} {j : Nat} {kk : Int × Int} {uu : Unit} {f n : rf_N} {y : rf_Y} {x : rf_T} {W : List Nat} {p : Nat} {i b m row mark nb v z : Int} {s t1 t2 : sx_S} {g : rf_Gh} {AR : Nat → List Int} {K : Int → sx_S → Prop} (hI : cx_I s) (hM : rf_MI nb mark s g) (hnb : nb ≤ s.1 66 71) (hmk : 0 ≤ mark ∧ mark ≤ s.1 66 58) (hph : rf_ph s g ≤ 1150) (hR : rf_RM 4 s) (hV : vr_G s g AR) (tA : vr_t s AR (.inner j kk uu f n)) (k : rf_CL s g N (.inner j kk uu f n) y x W p i b) (hp : p ≤ P + 1) (hm : 0 ≤ m ∧ m < s.1 66 61) (ho : s.2.1 111 m.toNat = 0) (hrow : 0 ≤ row ∧ row + rf_aa s m ≤ s.1 66 56) (hc : rf_clo s g W m) (h71 : s.1 66 71 + (p : Int) ≤ 399900) (h58 : s.1 66 58 + (p : Int) ≤ 399900) (k0 : kk.1 = 0) (a1 : cx_I t2) (v2 : cx_F [(66, 66), (106, 106)] s t1) (v3 : v = s.1 66 58) (v4 : t1.1 66 58 = s.1 66 58 + 1) (v5 : rf_f [58] s t1) (v6 : rf_ag 106 106 (s.1 66 58) s t1) (v7 : t1.2.1 106 v.toNat = s.2.1 106 kk.2.toNat) (n2 : cx_F [(66, 66), (115, 117)] t1 t2) (n3 : z = t1.1 66 71) (n4 : t2.1 66 71 = t1.1 66 71 + 1) (n5 : rf_f [71] t1 t2) (n6 : rf_ag 115 117 (t1.1 66 71) t1 t2) (n7 : rf_nm t2 z kk.2 v b) (hK : ∀ z t, vr_PF nb mark s t g AR z m row (.inner j kk uu f n) y W → K z t) : sx_C sL sx d 200 [.inr (.inl 66), .inl (s.2.1 102 j), .inl z, .inl m, .inl row, .inl mark] t2 K := by
  have r58 := hI.fld 66 58 (by decide) rfl
  have r71 := hI.fld 66 71 (by decide) rfl
  have e71 := v5 71 rfl
  have f58 := n5 58 rfl
  obtain ⟨hE1, hF1⟩ := rf_EX_var (nb := s.1 66 71) v2 v5 v6 (by omega)
  obtain ⟨hE2, hF2⟩ := rf_EX_name (ib := s.1 66 58) n2 n5 n6
  have hE : rf_EX (s.1 66 71) (s.1 66 58) s t2 := rf_EX_trans hE2 hE1 (by omega) (Int.le_refl _)
  have hF := rf_FS_trans hF2 hF1
  have c1 : rf_NC s t1 := rf_NC_F v2 rfl v5 rfl
  have c2 : rf_NC t1 t2 := rf_NC_F n2 rfl n5 rfl
  have hN : rf_NC s t2 := ⟨c2.1.trans c1.1, fun q hq => (c2.2 q (by have := c1.1; omega)).trans (c1.2 q hq)⟩
  have hx : ∃ C D, x = rf_a C D := by
    rcases k.1.2.1 with ⟨_, C, D, q, _⟩ | ⟨q, _⟩
    · exact ⟨C, D, q⟩
    · exact absurd k0 q
  obtain ⟨C, D, rfl⟩ := hx
  have hpp := rf_wy_pos k.2.2.2 hph
  have hw1 := rf_wh_pos (j := j) (k := kk) (u := uu) (f := f) (x := n)
  have kl := rf_CL_lam (t := t2) (z := z) (v := v) hM.ub k k0 hE (by omega) (by omega) v3 r58.1 (by rw [(n2.same 106 rfl).2]; exact v7) (by omega) n7
  have hqu := rf_NC_qu hE hN
  have eaa := hE.aa hm.1 hm.2
  have e50 := v5 50 rfl
  have e56 := v5 56 rfl
  have e64 := v5 64 rfl
  have e70 := v5 70 rfl
  have g50 := n5 50 rfl
  have g56 := n5 56 rfl
  have g64 := n5 64 rfl
  have g70 := n5 70 rfl
  have e61 := hN.1
  have tf : vr_t s AR f := by
    rcases tA.2 with ⟨_, q⟩ | ⟨q, _⟩ | ⟨q, _⟩
    · exact q
    · omega
    · omega
  refine ih N f _ D W (p - 1) _ _ m row mark nb t2 g AR K a1 (rf_NC_MI (rf_EX_le hE hnb hmk.2) hN (Int.le_refl _) (Int.le_refl _) hM) (by omega) (by omega) (by rw [rf_NC_ph hE hN]; exact hph) (rf_RM_same hR (by omega) (by omega) hN.1 (by omega) (by omega) hqu) (vr_G_up hE (rf_EG_refl _ _) hN (fun _ _ => rfl) hV) ((vr_t_up hE (fun _ _ => rfl)).1 tf) kl (by omega) (by omega) (by rw [hN.2 _ (by omega)]; exact ho) (by omega) (rf_clo_NC hN (by rw [(n2.same 124 rfl).2, (v2.same 124 rfl).2]) hc) (by omega) (by omega) (fun zz t ht => hK zz t (vr_PF_pre hE hN hF (by omega) (by omega) (by omega) hM hnb hmk.2 hm hrow (fun th _ hk => by rw [show t2.1 66 58 = s.1 66 58 + 1 by omega, v3]; exact vr_K_lam k0 hk) ht (fun g' q1 q2 q3 q4 q5 q6 q7 => ⟨g', q1, rfl, rf_EG_refl _ _, fun w hw => ?_, fun w hw => ?_, q6⟩)))
  · rcases hw with ⟨c, _⟩ | ⟨_, hne, hw⟩ | ⟨c, _⟩
    · omega
    · have := q4 w hw
      have e : rf_look (rf_one kk.2 v y) w = rf_look y w := if_neg (fun c => hne c.symm)
      rw [e] at this
      exact this
    · omega
  · rcases hw with ⟨c, _⟩ | ⟨_, hw⟩ | ⟨c, _⟩
    · omega
    · exact q5 w hw
    · omega
end
section
/-! ===== the reference: fits, into a solved unknown ===== -/
theorem vr_ft_en {sL : Nat} {sx : Nat → Int32} {P d : Nat} (ih : vr_FT sL sx P d) {N : Int → rf_T → Prop} {j : Nat} {kk : Int × Int} {uu : Unit} {f n : rf_N} {y : rf_Y} {x : rf_T} {W : List Nat} {p : Nat} {i b m row mark nb z : Int} {s t1 : sx_S} {g : rf_Gh} {AR : Nat → List Int} {K : Int → sx_S → Prop} (hI : cx_I s) (hM : rf_MI nb mark s g) (hnb : nb ≤ s.1 66 71) (hmk : 0 ≤ mark ∧ mark ≤ s.1 66 58) (hph : rf_ph s g ≤ 1150) (hR : rf_RM 4 s) (hV : vr_G s g AR) (tA : vr_t s AR (.inner j kk uu f n)) (k : rf_CL s g N (.inner j kk uu f n) y x W p i b) (hp : p ≤ P + 1) (hm : 0 ≤ m ∧ m < s.1 66 61) (ho : s.2.1 111 m.toNat = 0) (hrow : 0 ≤ row ∧ row + rf_aa s m ≤ s.1 66 56) (hc : rf_clo s g W m) (h71 : s.1 66 71 + (p : Int) ≤ 399900) (h58 : s.1 66 58 + (p : Int) ≤ 399900) (k3 : kk.1 = 3) (hne : kk.2 ≠ m) (hs : s.2.1 111 kk.2.toNat ≠ 0) (a1 : cx_I t1) (n2 : cx_F [(66, 66), (115, 117)] (s.1, sx_ua s.2.1 124 kk.2.toNat 1, s.2.2) t1) (n5 : rf_f [71] s t1) (n6 : rf_ag 115 117 (s.1 66 71) s t1) (n4 : s.1 66 71 ≤ t1.1 66 71 ∧ t1.1 66 71 ≤ s.1 66 71 + s.2.1 108 kk.2.toNat + 1) (n7 : rf_bs t1 (rf_bh (g.2.1 kk.2) (rf_row (rf_fm s kk.2) (rf_vo s y i) (rf_aa s kk.2).toNat)) z) (hK : ∀ z t, vr_PF nb mark s t g AR z m row (.inner j kk uu f n) y W → K z t) : sx_C sL sx d 200 [.inr (.inl 66), .inl (s.2.1 113 kk.2.toNat), .inl z, .inl m, .inl row, .inl mark] t1 K := by
  have r58 := hI.fld 66 58 (by decide) rfl
  have e58 := n5 58 rfl
  have e61 := n5 61 rfl
  have r108 := hI.arr 108 (by decide) rfl kk.2.toNat
  obtain ⟨hE0, hF0⟩ := rf_EX_mark (nb := s.1 66 71) (ib := s.1 66 58) (s := s) (n := kk.2.toNat) (v := 1)
  obtain ⟨hE1, hF1⟩ := rf_EX_name (ib := s.1 66 58) n2 n5 (by
    intro q jj h1 h2 h3
    rw [n6 q jj h1 h2 h3]
    show _ = sx_ua s.2.1 124 kk.2.toNat 1 q jj
    rw [sx_ua_ne (by omega)])
  have hE : rf_EX (s.1 66 71) (s.1 66 58) s t1 := rf_EX_trans hE1 hE0 (Int.le_refl _) (Int.le_refl _)
  have hF := rf_FS_trans hF1 hF0
  have h111 : t1.2.1 111 = s.2.1 111 := by
    rw [(n2.same 111 rfl).2]
    show sx_ua s.2.1 124 kk.2.toNat 1 111 = _
    rw [sx_ua_ne (by decide)]
  have h124 : t1.2.1 124 = sx_ua s.2.1 124 kk.2.toNat 1 124 := (n2.same 124 rfl).2
  have hN : rf_NC s t1 := ⟨e61, fun q _ => by rw [h111]⟩
  obtain ⟨c1, c2, kc⟩ := rf_CL_en (t := t1) (z := z) hM hmk.2 hph k k3 hs hE n4.1 e58 n7
  obtain ⟨j0, kk0, uu0, f0, n0, eA, e1, e2, e3, e4, e5, e6, e7, e8⟩ := rf_CL_node k
  cases eA
  have hr : 0 ≤ kk.2 ∧ kk.2 < s.1 66 61 := by
    rcases e8 with ⟨c, _⟩ | ⟨c, hx, w, hw, _⟩
    · omega
    · exact (rf_Hn_3 hw k3).2.1
  have hbn : 0 ≤ s.2.1 104 j ∧ s.2.1 104 j + rf_aa s kk.2 ≤ s.1 66 56 := by
    rcases e8 with ⟨c, _⟩ | ⟨c, hx, w, hw, _⟩
    · omega
    · exact (rf_Hn_3 hw k3).2.2.1
  have hqu := rf_NC_qu hE hN
  have eaa := hE.aa hm.1 hm.2
  have hMX := hM.1 kk.2 hr.1 hr.2
  have hSV := hMX.2.2.2 hs
  have ekk : ((kk.2.toNat : Nat) : Int) = kk.2 := Int.toNat_of_nonneg hr.1
  have e50 := n5 50 rfl
  have e56 := n5 56 rfl
  have e64 := n5 64 rfl
  have e70 := n5 70 rfl
  have hvp : vr_p s AR j kk.2 := by
    rcases tA.2 with ⟨q, _⟩ | ⟨_, q⟩ | ⟨q, _⟩
    · omega
    · exact q
    · omega
  refine ih _ (g.1 kk.2) _ .leaf (kk.2.toNat :: W) (p - 5) _ _ m row mark nb t1 g AR K a1 (rf_NC_MI (rf_EX_le hE hnb hmk.2) hN (Int.le_refl _) (Int.le_refl _) hM) (by omega) (by omega) (by rw [rf_NC_ph hE hN]; exact hph) (rf_RM_same hR (by omega) (by omega) hN.1 (by omega) (by omega) hqu) (vr_G_up hE (rf_EG_refl _ _) hN (fun _ _ => rfl) hV) ((vr_t_up hE (fun _ _ => rfl)).1 (hV kk.2 hr.1 hr.2 hs)) kc (by omega) (by omega) (by rw [h111]; exact ho) (by omega) ?_ (by omega) (by omega) (fun zz t ht => hK zz t (vr_PF_pre hE hN hF (by omega) (by omega) e50 hM hnb hmk.2 hm hrow (fun th hS hk => by rw [e58]; refine vr_K_en ?_ (vr_V_en hI hM hS k3 hvp hs e2) hk; exact k3) ht (fun g' q1 q2 q3 q4 q5 q6 q7 => ?_)))
  · intro q hq hcl
    rw [e61] at hq
    rw [h124, sx_ua_same] at hcl
    dsimp only at hcl
    by_cases c : q = kk.2.toNat
    · exact Or.inl (by rw [c]; exact List.mem_cons_self)
    · rw [if_neg c] at hcl
      exact (hc q hq hcl).imp (fun z => List.mem_cons_of_mem _ z) (fun q z => q ((rf_rc_NC hN).mp z))
  · -- the body is done: fewer variables are used
    have hs2 : t.2.1 111 kk.2.toNat ≠ 0 := by
      rw [(((q2.2 kk.2.toNat).2.2.2.1 (by omega)).2.2 hs).1]
      exact hs
    have gB : g'.1 kk.2 = g.1 kk.2 := ((q3 kk.2 hr.1 hr.2).1 hs).1
    have gY : g'.2.1 kk.2 = g.2.1 kk.2 := ((q3 kk.2 hr.1 hr.2).1 hs).2
    have hnr : ¬ rf_rc (rf_Ed t g') kk.2 m := fun hrc => by
      obtain ⟨w, w1, w2⟩ := rf_rc_head hrc
      have w3 := w1.2.2
      rw [gB] at w3
      obtain ⟨w4, w5⟩ := q5 w w3
      rcases w2 with w2 | w2
      · exact w4 w2
      · exact w5 w2
    have hp2 : ∀ v, (rf_fo (rf_Wd t g'.2.2) (g'.1 kk.2)).1 v → ∀ q, g'.2.2 kk.2 q → rf_look (g'.2.1 kk.2) v = rf_fm t kk.2 q → rf_gv s m row mark (rf_look y (rf_rv1 s j q)) := by
      intro v hv q hq hl
      rw [gB] at hv
      rw [gY] at hl
      have hU := q3.ub hM.ub
      have hv2 := (rf_Wd_up q2 hU).1 ((rf_bn_gn hSV.1.1).1 _ hSV.1.2.1) v hv
      obtain ⟨q', u1, u2, u3⟩ := rf_en_look (y := y) (n := i) hMX hs hv2
      have hq2 := (hU kk.2 q hr.1 hr.2 hq).2
      have hq3 := hMX.2.1 q' u1
      obtain ⟨_, _, ⟨⟨f1, f2⟩, _, _, f5⟩, _⟩ := hSV
      rw [q2.fm hr.1 hr.2 hs f1 (by omega), u2] at hl
      have e := f5 q' q hq3 hq2 hl
      subst e
      have := q4 v hv
      rw [u3, e2] at this
      exact this
    have hsh := rf_MI_shr (g := g') (g' := (g'.1, g'.2.1, fun r q => g'.2.2 r q ∧ (r = kk.2 → rf_gv s m row mark (rf_look y (rf_rv1 s j q))))) (x := kk.2) (p := fun q => rf_gv s m row mark (rf_look y (rf_rv1 s j q))) hs2 rfl rfl (fun _ _ => Iff.rfl) hp2 q1
    refine ⟨_, hsh.1, rfl, hsh.2, fun v hv => ?_, fun w hw => ?_, fun q hq hcl => ?_⟩
    · rcases hv with ⟨_, q, w1, w2⟩ | ⟨c, _⟩ | ⟨c, _⟩
      · have hU := q3.ub hM.ub
        have hq2 := (hU kk.2 q hr.1 hr.2 w1.1).2
        rw [w2, q2.rv e3 hbn.1 (by omega)]
        exact w1.2 rfl
      · omega
      · omega
    · rcases hw with ⟨_, rfl⟩ | ⟨c, _⟩ | ⟨c, _⟩
      · exact ⟨hne, hnr⟩
      · omega
      · omega
    · rcases q6 q hq hcl with w | w
      · rcases List.mem_cons.mp w with w | w
        · refine Or.inr ?_
          rw [w, ekk]
          exact hnr
        · exact Or.inl w
      · exact Or.inr w
end
