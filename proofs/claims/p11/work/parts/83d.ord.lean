/-! ===== the desk: the order of an open unknown's ARGs ===== -/
theorem w_dw_al {CALL : sx_Ca} {sL : Nat} {sx : Nat → Int32} {Q : Nat → sx_L → sx_S → Prop} {R : Int → sx_S → Prop} (h_head : ∀ (a0 : Int) (s : sx_S) (K : Int → sx_S → Prop), cx_I s → (-2147483648 ≤ a0 ∧ a0 ≤ 2147483647) → (∀ z : Int, (0 ≤ a0 → a0 < s.1 11 6 → z = s.2.1 13 a0.toNat) → (a0 < 0 → z = -1) → K z s) → CALL 92 [.inr (.inl 11), .inl a0] s K) {s : sx_S} {a0 a1 a2 w h lv : Int} (h_arg : ∀ K : Int → sx_S → Prop, K w s → CALL 95 [.inr (.inl 11), .inl a0, .inl a2] s K) (h_of : ∀ K : Int → sx_S → Prop, K lv s → CALL 47 [.inr (.inl 29), .inl a1, .inl h] s K) (hI : cx_I s) (pw : 0 ≤ w ∧ w < s.1 11 6) (eh : s.2.1 13 w.toNat = h) (hK : R lv s) : sx_wp true sL sx eX10_argumentLevel CALL [] Q R 400 0 (sx_argsF 0 [.inr (.inl 55), .inl a0, .inl a1, .inl a2]) [] s := by
  have h0 := hI.fld 11 6 (by decide) rfl
  repeat' (first | (with_reducible (rintro _ rfl)) | (with_reducible intro _) | (refine And.intro ?_ ?_) | (refine h_arg _ ?_) | (refine h_head w s _ hI (by omega) (fun v v1 v2 => ?_); obtain rfl : v = h := (v1 pw.1 pw.2).trans eh) | (refine h_of _ ?_))
  all_goals (try dsimp only at *)
  all_goals (first | trivial | assumption | omega | (exfalso; omega) | skip)
theorem c_dw_al {sL : Nat} {sx : Nat → Int32} (hsL : sL ≤ 3072) (d : Nat) (hd : 3 ≤ d) : ∀ (a0 a1 hi : Int) (k : Nat) (F : rf_N) (c : List (Int × Int)) (s : sx_S) (K : Int → sx_S → Prop), cx_I s → (0 ≤ a0 ∧ a0 < s.1 11 6) → dz_nd s F (s.2.1 14 a0.toNat) → k < rf_len F → rf_len F ≤ 4 → dv_c s c hi a1 → hi ≤ s.1 29 3 → K (dv_lk c ((dz_hs F).getD k (-1))) s → sx_C sL sx d 127 [.inr (.inl 55), .inl a0, .inl a1, .inl (k : Int)] s K := by
  intro a0 a1 hi k F c s K hI p0 hF hk h4 hc hhi hK
  obtain ⟨d, rfl⟩ : ∃ e, d = e + 2 := ⟨d - 2, by omega⟩
  obtain ⟨w, hw⟩ := dv_drx k hF
  obtain ⟨n1, n2⟩ := dv_nth hk hw
  refine sx_meth (wr := true) (n := 400) hsL (e := eX10_argumentLevel) rfl (w_dw_al (Q := fun _ _ _ => False) (w := w) (h := (dz_hs F).getD k (-1)) (lv := dv_lk c ((dz_hs F).getD k (-1))) (c_dz_head hsL (d + 1) (by omega)) (fun K' hK' => ?_) (fun K' hK' => ?_) hI n1 n2 hK)
  · refine c_dz_arg hsL (d + 1) (by omega) _ _ F _ _ hI p0 (by omega) hF (fun z' _ q' => ?_)
    rw [Int.toNat_natCast] at q'
    rw [dv_nd1 q' hw]
    exact hK'
  · have r13 := hI.arr 13 (by decide) rfl w.toNat
    rw [n2] at r13
    exact c_dv_of hsL (d + 1) (by omega) _ _ _ c _ _ hI r13 hc hhi hK'
theorem w_dw_oa {CALL : sx_Ca} {sL : Nat} {sx : Nat → Int32} {Q : Nat → sx_L → sx_S → Prop} {R : Int → sx_S → Prop} (h_head : ∀ (a0 : Int) (s : sx_S) (K : Int → sx_S → Prop), cx_I s → (-2147483648 ≤ a0 ∧ a0 ≤ 2147483647) → (∀ z : Int, (0 ≤ a0 → a0 < s.1 11 6 → z = s.2.1 13 a0.toNat) → (a0 < 0 → z = -1) → K z s) → CALL 92 [.inr (.inl 11), .inl a0] s K) (h_arity : ∀ (a0 : Int) (s : sx_S) (K : Int → sx_S → Prop), cx_I s → (-2147483648 ≤ a0 ∧ a0 ≤ 2147483647) → (∀ z : Int, (0 ≤ a0 → a0 < s.1 11 6 → z = s.2.1 16 a0.toNat) → (a0 < 0 → z = 0) → K z s) → CALL 94 [.inr (.inl 11), .inl a0] s K) {s : sx_S} {a0 a1 m n : Int} (hI : cx_I s) (p0 : 0 ≤ a0 ∧ a0 < s.1 11 6) (em : s.2.1 13 a0.toNat = m) (pm : 0 ≤ m ∧ m < 32) (en : s.2.1 16 a0.toNat = n) (pn : 0 ≤ n ∧ n ≤ 4) (hQ : Q 41 [(0, .inr (.inl 55)), (1, .inl a0), (2, .inl a1), (3, .inl (m * 4)), (4, .inl n), (5, .inl 0)] s) : sx_wp true sL sx eX10_orderArguments CALL [(41, [0, 1, 2, 3, 4, 5]), (64, [0, 1, 2, 3, 4, 5, 6, 7, 8])] Q R 400 0 (sx_argsF 0 [.inr (.inl 55), .inl a0, .inl a1]) [] s := by
  have h0 := hI.fld 11 6 (by decide) rfl
  have zzm : sx_w true (m * 4) = m * 4 := px_wid (by omega) (by omega)
  have zzn : sx_w true (m * 4 + n) = m * 4 + n := px_wid (by omega) (by omega)
  repeat' (first | (with_reducible (rintro _ rfl)) | (with_reducible intro _) | (refine And.intro ?_ ?_) | (refine h_head a0 s _ hI (by omega) (fun v v1 v2 => ?_); obtain rfl : v = m := (v1 p0.1 p0.2).trans em) | (refine h_arity a0 s _ hI (by omega) (fun v v1 v2 => ?_); obtain rfl : v = n := (v1 p0.1 p0.2).trans en))
  all_goals (try dsimp only at *)
  all_goals (first | trivial | assumption | omega | (exfalso; omega) | (rw [zzm] at *; first | assumption | omega | (exfalso; omega)) | (rw [zzm] at *; rw [zzn] at *; first | assumption | omega | (exfalso; omega)) | skip)
theorem w_dw_oa41 {CALL : sx_Ca} {sL : Nat} {sx : Nat → Int32} {Q : Nat → sx_L → sx_S → Prop} {R : Int → sx_S → Prop} {s : sx_S} {a0 a1 b n x5 lv : Int} (h_al : x5 < n → ∀ K : Int → sx_S → Prop, K lv s → CALL 127 [.inr (.inl 55), .inl a0, .inl a1, .inl x5] s K) (hI : cx_I s) (rl : -2147483648 ≤ lv ∧ lv ≤ 2147483647) (p5 : 0 ≤ x5 ∧ x5 ≤ 4) (pn : 0 ≤ n ∧ n ≤ 4) (pb : -2147483648 ≤ b ∧ b ≤ 2147483647) (hK : n ≤ x5 → R 0 s) (hQ : x5 < n → Q 64 [(0, .inr (.inl 55)), (1, .inl a0), (2, .inl a1), (3, .inl b), (4, .inl n), (5, .inl x5), (6, .inl lv), (7, .inl b), (8, .inl 0)] s) : sx_wp true sL sx eX10_orderArguments CALL [(41, [0, 1, 2, 3, 4, 5]), (64, [0, 1, 2, 3, 4, 5, 6, 7, 8])] Q R 400 41 [(0, .inr (.inl 55)), (1, .inl a0), (2, .inl a1), (3, .inl b), (4, .inl n), (5, .inl x5)] [] s := by
  repeat' (first | (with_reducible (rintro _ rfl)) | (with_reducible intro _) | (refine And.intro ?_ ?_) | (refine h_al (by omega) _ ?_))
  all_goals (try dsimp only at *)
  all_goals (first | trivial | assumption | omega | (exfalso; omega) | (exact hK (by omega)) | (exact hQ (by omega)) | skip)
theorem w_dw_oa64 {CALL : sx_Ca} {sL : Nat} {sx : Nat → Int32} {Q : Nat → sx_L → sx_S → Prop} {R : Int → sx_S → Prop} {s : sx_S} {a0 a1 b n x5 x6 x7 x8 lv : Int} (h_al : x8 < n → ∀ K : Int → sx_S → Prop, K lv s → CALL 127 [.inr (.inl 55), .inl a0, .inl a1, .inl x8] s K) (hI : cx_I s) (rl : -2147483648 ≤ lv ∧ lv ≤ 2147483647) (p7 : 0 ≤ x7 ∧ x7 < 128) (p5 : 0 ≤ x5 ∧ x5 ≤ 3) (p8 : 0 ≤ x8 ∧ x8 ≤ 4) (pn : 0 ≤ n ∧ n ≤ 4) (p6 : -2147483648 ≤ x6 ∧ x6 ≤ 2147483647) (hQ1 : x8 < n → ∀ y : Int, ((lv < x6 ∧ y = x7 + 1) ∨ (x6 ≤ lv ∧ y = x7)) → Q 64 [(0, .inr (.inl 55)), (1, .inl a0), (2, .inl a1), (3, .inl b), (4, .inl n), (5, .inl x5), (6, .inl x6), (7, .inl y), (8, .inl (x8 + 1))] s) (hQ2 : n ≤ x8 → Q 41 [(0, .inr (.inl 55)), (1, .inl a0), (2, .inl a1), (3, .inl b), (4, .inl n), (5, .inl (x5 + 1))] (s.1, sx_ua s.2.1 64 x7.toNat x5, s.2.2)) : sx_wp true sL sx eX10_orderArguments CALL [(41, [0, 1, 2, 3, 4, 5]), (64, [0, 1, 2, 3, 4, 5, 6, 7, 8])] Q R 400 64 [(0, .inr (.inl 55)), (1, .inl a0), (2, .inl a1), (3, .inl b), (4, .inl n), (5, .inl x5), (6, .inl x6), (7, .inl x7), (8, .inl x8)] [] s := by
  have zz8 : sx_w true (x8 + 1) = x8 + 1 := px_wid (by omega) (by omega)
  have zz5 : sx_w true (x5 + 1) = x5 + 1 := px_wid (by omega) (by omega)
  have zz7 : sx_w true (x7 + 1) = x7 + 1 := px_wid (by omega) (by omega)
  have zz0 : sx_w true (x7 + 0) = x7 := by rw [px_wid (by omega) (by omega)]; omega
  repeat' (first | (with_reducible (rintro _ rfl)) | (with_reducible intro _) | (refine And.intro ?_ ?_) | (refine h_al (by omega) _ ?_))
  all_goals (try dsimp only at *)
  all_goals (first | trivial | assumption | omega | (exfalso; omega) | (have zz9 := hQ2 (by omega); rw [← zz5] at zz9; exact zz9) | (have zz9 := hQ1 (by omega) (x7 + 1) (Or.inl ⟨by omega, rfl⟩); rw [← zz8, ← zz7] at zz9; exact zz9) | (have zz9 := hQ1 (by omega) x7 (Or.inr ⟨by omega, rfl⟩); rw [← zz8, ← zz0] at zz9; exact zz9) | skip)
/-- the ARGs' places by the levels D -/
def dw_O (m : Int) (n : Nat) (D : Nat → Int) (s t : sx_S) : Prop := True → (∀ k : Nat, k < n → t.2.1 64 (m * 4 + ((rf_rnk D n k : Nat) : Int)).toNat = (k : Int)) ∧ ∀ j : Nat, (j : Int) < m * 4 ∨ m * 4 + 4 ≤ (j : Int) → t.2.1 64 j = s.2.1 64 j
theorem c_dw_oa {sL : Nat} {sx : Nat → Int32} (hsL : sL ≤ 3072) (d : Nat) (hd : 4 ≤ d) : ∀ (a0 a1 hi m : Int) (F : rf_N) (c : List (Int × Int)) (s : sx_S) (K : Int → sx_S → Prop), cx_I s → (0 ≤ a0 ∧ a0 < s.1 11 6) → (s.2.1 13 a0.toNat = m ∧ 0 ≤ m ∧ m < 32) → dz_nd s F (s.2.1 14 a0.toNat) → s.2.1 16 a0.toNat = (rf_len F : Int) → rf_len F ≤ 4 → dv_c s c hi a1 → hi ≤ s.1 29 3 → (∀ p q, p < rf_len F → q < rf_len F → dv_lk c ((dz_hs F).getD p (-1)) = dv_lk c ((dz_hs F).getD q (-1)) → p = q) → (∀ t, cx_I t → cx_F [(64, 64)] s t → t.1 = s.1 → dw_O m (rf_len F) (fun k => dv_lk c ((dz_hs F).getD k (-1))) s t → K 0 t) → sx_C sL sx d 126 [.inr (.inl 55), .inl a0, .inl a1] s K := by
  intro a0 a1 hi m F c s K hI p0 pm hF hA h4 hc hhi hin hK
  obtain ⟨d, rfl⟩ : ∃ e, d = e + 2 := ⟨d - 2, by omega⟩
  refine sx_methL (wr := true) (n := 400) (n' := 400) (stop := [(41, [0, 1, 2, 3, 4, 5]), (64, [0, 1, 2, 3, 4, 5, 6, 7, 8])]) (fun nn pc ls u => (cx_I u ∧ cx_F [(64, 64)] s u ∧ u.1 = s.1) ∧ (∀ j : Nat, (j : Int) < m * 4 ∨ m * 4 + 4 ≤ (j : Int) → u.2.1 64 j = s.2.1 64 j) ∧ ((pc = 41 ∧ ∃ x5 : Nat, ls = [(0, .inr (.inl 55)), (1, .inl a0), (2, .inl a1), (3, .inl (m * 4)), (4, .inl (rf_len F : Int)), (5, .inl (x5 : Int))] ∧ x5 ≤ rf_len F ∧ (∀ k : Nat, k < x5 → u.2.1 64 (m * 4 + ((rf_rnk (fun k => dv_lk c ((dz_hs F).getD k (-1))) (rf_len F) k : Nat) : Int)).toNat = (k : Int)) ∧ nn = 10 * (4 - x5) + 9) ∨ (pc = 64 ∧ ∃ x5 x8 : Nat, ls = [(0, .inr (.inl 55)), (1, .inl a0), (2, .inl a1), (3, .inl (m * 4)), (4, .inl (rf_len F : Int)), (5, .inl (x5 : Int)), (6, .inl (dv_lk c ((dz_hs F).getD x5 (-1)))), (7, .inl (m * 4 + ((rf_sum (rf_r1 (fun k => dv_lk c ((dz_hs F).getD k (-1))) x5) x8 : Nat) : Int))), (8, .inl (x8 : Int))] ∧ x5 < rf_len F ∧ x8 ≤ rf_len F ∧ (∀ k : Nat, k < x5 → u.2.1 64 (m * 4 + ((rf_rnk (fun k => dv_lk c ((dz_hs F).getD k (-1))) (rf_len F) k : Nat) : Int)).toNat = (k : Int)) ∧ nn = 10 * (4 - x5) + (4 - x8)))) hsL (e := eX10_orderArguments) rfl ?_ ?_
  · exact w_dw_oa (c_dz_head hsL (d + 1) (by omega)) (c_dz_arity hsL (d + 1) (by omega)) hI p0 pm.1 pm.2 hA (by omega) ⟨_, ⟨hI, cx_F_refl _ _, rfl⟩, fun _ _ => rfl, Or.inl ⟨rfl, 0, rfl, by omega, fun k hk => absurd hk (by omega), rfl⟩⟩
  · rintro nn pc ls u ⟨⟨u1, u2, u3⟩, u4, ⟨rfl, x5, rfl, h5, h6, rfl⟩ | ⟨rfl, x5, x8, rfl, h5, h8, h6, rfl⟩⟩
    · have nf : dv_nf (s.1 11 6) (fun _ => []) (fun _ => []) s u := dv_nf_F _ u2 (by decide)
      have hFu : dz_nd u F (u.2.1 14 a0.toNat) := by
        rw [(u2.same 14 rfl).2]
        exact dz_nd_fr hF (nf trivial).1 (fun i hi => rf_nd_lt hF i hi)
      have hcu : dv_c u c hi a1 := dv_ch_fr (fun i _ => by rw [(u2.same 30 rfl).2, (u2.same 31 rfl).2, (u2.same 32 rfl).2]; exact ⟨rfl, rfl, rfl⟩) hc
      refine w_dw_oa41 (lv := dv_lk c ((dz_hs F).getD x5 (-1))) (fun hlt K' hK' => c_dw_al hsL (d + 1) (by omega) a0 a1 hi x5 F c u K' u1 (by rw [u3]; exact p0) hFu (by omega) h4 hcu (by rw [u3]; exact hhi) hK') u1 (dv_lk_rng hI hc _) (by omega) (by omega) (by omega) (fun hge => hK u u1 u2 u3 (fun _ => ⟨fun k hk => h6 k (by omega), u4⟩)) (fun hlt => ⟨_, by omega, ⟨u1, u2, u3⟩, u4, Or.inr ⟨rfl, x5, 0, ?_, by omega, by omega, h6, rfl⟩⟩)
      show _ = [_, _, _, _, _, _, _, (7, Sum.inl (m * 4 + ((0 : Nat) : Int))), _]
      rw [show m * 4 + ((0 : Nat) : Int) = m * 4 by omega]
      rfl
    · have nf : dv_nf (s.1 11 6) (fun _ => []) (fun _ => []) s u := dv_nf_F _ u2 (by decide)
      have hFu : dz_nd u F (u.2.1 14 a0.toNat) := by
        rw [(u2.same 14 rfl).2]
        exact dz_nd_fr hF (nf trivial).1 (fun i hi => rf_nd_lt hF i hi)
      have hcu : dv_c u c hi a1 := dv_ch_fr (fun i _ => by rw [(u2.same 30 rfl).2, (u2.same 31 rfl).2, (u2.same 32 rfl).2]; exact ⟨rfl, rfl, rfl⟩) hc
      have hs3 : rf_sum (rf_r1 (fun k => dv_lk c ((dz_hs F).getD k (-1))) x5) x8 ≤ 3 := by
        have q1 : ∀ a c' : Nat, rf_sum (rf_r1 (fun k => dv_lk c ((dz_hs F).getD k (-1))) x5) a ≤ rf_sum (rf_r1 (fun k => dv_lk c ((dz_hs F).getD k (-1))) x5) (a + c') := fun a c' => by
          induction c' with
          | zero => exact Nat.le_refl _
          | succ c' ih =>
            rw [show a + (c' + 1) = (a + c') + 1 from rfl, rf_sum_s]
            omega
        have q2 := q1 x8 (rf_len F - x8)
        rw [show x8 + (rf_len F - x8) = rf_len F by omega] at q2
        have q3 := rf_rnk_lt (D := fun k => dv_lk c ((dz_hs F).getD k (-1))) (n := rf_len F) h5
        unfold rf_rnk at q3
        omega
      refine w_dw_oa64 (lv := dv_lk c ((dz_hs F).getD x8 (-1))) (fun hlt K' hK' => c_dw_al hsL (d + 1) (by omega) a0 a1 hi x8 F c u K' u1 (by rw [u3]; exact p0) hFu (by omega) h4 hcu (by rw [u3]; exact hhi) hK') u1 (dv_lk_rng hI hc _) (by omega) (by omega) (by omega) (by omega) (dv_lk_rng hI hc _) (fun hlt y hy => ⟨10 * (4 - x5) + (4 - (x8 + 1)), by omega, ⟨u1, u2, u3⟩, u4, Or.inr ⟨rfl, x5, x8 + 1, ?_, h5, by omega, h6, rfl⟩⟩) (fun hge => ⟨10 * (4 - (x5 + 1)) + 9, by omega, ⟨cx_I_ua rfl rfl u1 (by omega) (by omega), cx_F_ua rfl u2, u3⟩, fun j hj => ?_, Or.inl ⟨rfl, x5 + 1, rfl, by omega, fun k hk => ?_, rfl⟩⟩)
      · have ey : y = m * 4 + ((rf_sum (rf_r1 (fun k => dv_lk c ((dz_hs F).getD k (-1))) x5) (x8 + 1) : Nat) : Int) := by
          rw [rf_sum_s]
          rcases hy with ⟨z1, z2⟩ | ⟨z1, z2⟩
          · have : rf_r1 (fun k => dv_lk c ((dz_hs F).getD k (-1))) x5 x8 = 1 := if_pos z1
            omega
          · have : rf_r1 (fun k => dv_lk c ((dz_hs F).getD k (-1))) x5 x8 = 0 := if_neg (by dsimp only; omega)
            omega
        rw [ey]
        rfl
      · show sx_ua u.2.1 64 _ _ 64 j = _
        rw [sx_ua_same]
        dsimp only
        rw [if_neg (by omega)]
        exact u4 j hj
      · have e8 : x8 = rf_len F := by omega
        show sx_ua u.2.1 64 _ _ 64 _ = _
        rw [sx_ua_same]
        dsimp only
        rw [e8]
        have el : rf_sum (rf_r1 (fun k => dv_lk c ((dz_hs F).getD k (-1))) x5) (rf_len F) = rf_rnk (fun k => dv_lk c ((dz_hs F).getD k (-1))) (rf_len F) x5 := rfl
        rw [el]
        by_cases c5 : k = x5
        · rw [c5, if_pos rfl]
        · have hne : rf_rnk (fun k => dv_lk c ((dz_hs F).getD k (-1))) (rf_len F) k ≠ rf_rnk (fun k => dv_lk c ((dz_hs F).getD k (-1))) (rf_len F) x5 := fun e => c5 (rf_rnk_inj (D := fun k => dv_lk c ((dz_hs F).getD k (-1))) hin (by omega) h5 e)
          rw [if_neg (by omega)]
          exact h6 k (by omega)
