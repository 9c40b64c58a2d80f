section
/-! ===== the desk: the order of an open unknown's ARGs ===== -/
theorem w_dw_al {CALL : sx_Ca} {sL : Nat} {sx : Nat → Int32} {Q : Nat → sx_L → sx_S → Prop} {R : Int → sx_S → Prop} (h_head : ∀ (a0 : Int) (s : sx_S) (K : Int → sx_S → Prop), cx_I s → (-2147483648 ≤ a0 ∧ a0 ≤ 2147483647) → (∀ z : Int, (0 ≤ a0 → a0 < s.1 11 6 → z = s.2.1 13 a0.toNat) → (a0 < 0 → z = -1) → K z s) → CALL 92 [.inr (.inl 11), .inl a0] s K) {s : sx_S} {a0 a1 a2 w h lv : Int} (h_arg : ∀ K : Int → sx_S → Prop, K w s → CALL 95 [.inr (.inl 11), .inl a0, .inl a2] s K) (h_of : ∀ K : Int → sx_S → Prop, K lv s → CALL 47 [.inr (.inl 29), .inl a1, .inl h] s K) (hI : cx_I s) (pw : 0 ≤ w ∧ w < s.1 11 6) (eh : s.2.1 13 w.toNat = h) (hK : R lv s) : sx_wp true sL sx eX10_argumentLevel CALL [] Q R 400 0 (sx_argsF 0 [.inr (.inl 55), .inl a0, .inl a1, .inl a2]) [] s := by
  have h0 := hI.fld 11 6 (by decide) rfl
  repeat' (first | (with_reducible (rintro _ rfl)) | (with_reducible intro _) | (refine And.intro ?_ ?_) | (refine h_arg _ ?_) | (refine h_head w s _ hI (by omega) (fun v v1 v2 => ?_); obtain rfl : v = h := (v1 pw.1 pw.2).trans eh) | (refine h_of _ ?_))
  all_goals (try dsimp only at *)
  all_goals (first | trivial | assumption | omega | (exfalso; omega) | skip)
theorem c_dw_al {sL : Nat} {sx : Nat → Int32} (hsL : sL ≤ 3072) (d : Nat) (hd : 3 ≤ d) : ∀ (a0 a1 hi : Int) (k : Nat) (F : rf_N) (c : List (Int × Int)) (s : sx_S) (K : Int → sx_S → Prop), cx_I s → (0 ≤ a0 ∧ a0 < s.1 11 6) → dz_nd s F (s.2.1 14 a0.toNat) → k < rf_len F → rf_len F ≤ 4 → dv_c s c hi a1 → hi ≤ s.1 29 3 → K (dv_lk c ((dz_hs F).getD k (-1))) s → sx_C sL sx d 127 [.inr (.inl 55), .inl a0, .inl a1, .inl (k : Int)] s K := by
  intro a0 a1 hi k F c s K hI p0 hF hk h4 hc hhi hK
  obtain ⟨d, rfl⟩ : ∃ e, d = e + 2 := ⟨d - 2, by omega⟩
  obtain ⟨w, hw⟩ := dv_drx k hF
  obtain ⟨n1, n2⟩ := dv_nth hk hw
  refine sx_meth (wr := true) (n := 400) hsL (e := eX10_argumentLevel) rfl (w_dw_al (Q := fun _ _ _ => False) (w := w) (h := (dz_hs F).getD k (-1)) (lv := dv_lk c ((dz_hs F).getD k (-1))) (c_dz_head hsL (d + 1) (by omega)) (fun K' hK' => ?_) (fun K' hK' => ?_) hI n1 n2 hK)
  · refine c_dz_arg hsL (d + 1) (by omega) _ _ F _ _ hI p0 (by omega) hF (fun z' _ q' => ?_)
    rw [Int.toNat_natCast] at q'
    rw [dv_nd1 q' hw]
    exact hK'
  · have r13 := hI.arr 13 (by decide) rfl w.toNat
    rw [n2] at r13
    exact c_dv_of hsL (d + 1) (by omega) _ _ _ c _ _ hI r13 hc hhi hK'
theorem w_dw_oa {CALL : sx_Ca} {sL : Nat} {sx : Nat → Int32} {Q : Nat → sx_L → sx_S → Prop} {R : Int → sx_S → Prop} (h_head : ∀ (a0 : Int) (s : sx_S) (K : Int → sx_S → Prop), cx_I s → (-2147483648 ≤ a0 ∧ a0 ≤ 2147483647) → (∀ z : Int, (0 ≤ a0 → a0 < s.1 11 6 → z = s.2.1 13 a0.toNat) → (a0 < 0 → z = -1) → K z s) → CALL 92 [.inr (.inl 11), .inl a0] s K) (h_arity : ∀ (a0 : Int) (s : sx_S) (K : Int → sx_S → Prop), cx_I s → (-2147483648 ≤ a0 ∧ a0 ≤ 2147483647) → (∀ z : Int, (0 ≤ a0 → a0 < s.1 11 6 → z = s.2.1 16 a0.toNat) → (a0 < 0 → z = 0) → K z s) → CALL 94 [.inr (.inl 11), .inl a0] s K) {s : sx_S} {a0 a1 m n : Int} (hI : cx_I s) (p0 : 0 ≤ a0 ∧ a0 < s.1 11 6) (em : s.2.1 13 a0.toNat = m) (pm : 0 ≤ m ∧ m < 32) (en : s.2.1 16 a0.toNat = n) (pn : 0 ≤ n ∧ n ≤ 4) (hQ : Q 41 [(0, .inr (.inl 55)), (1, .inl a0), (2, .inl a1), (3, .inl (m * 4)), (4, .inl n), (5, .inl 0)] s) : sx_wp true sL sx eX10_orderArguments CALL [(41, [0, 1, 2, 3, 4, 5]), (64, [0, 1, 2, 3, 4, 5, 6, 7, 8])] Q R 400 0 (sx_argsF 0 [.inr (.inl 55), .inl a0, .inl a1]) [] s := by
  have h0 := hI.fld 11 6 (by decide) rfl
  have zzm : sx_w true (m * 4) = m * 4 := px_wid (by omega) (by omega)
  have zzn : sx_w true (m * 4 + n) = m * 4 + n := px_wid (by omega) (by omega)
  repeat' (first | (with_reducible (rintro _ rfl)) | (with_reducible intro _) | (refine And.intro ?_ ?_) | (refine h_head a0 s _ hI (by omega) (fun v v1 v2 => ?_); obtain rfl : v = m := (v1 p0.1 p0.2).trans em) | (refine h_arity a0 s _ hI (by omega) (fun v v1 v2 => ?_); obtain rfl : v = n := (v1 p0.1 p0.2).trans en))
  all_goals (try dsimp only at *)
  all_goals (first | trivial | assumption | omega | (exfalso; omega) | (rw [zzm] at *; first | assumption | omega | (exfalso; omega)) | (rw [zzm] at *; rw [zzn] at *; first | assumption | omega | (exfalso; omega)) | skip)
theorem w_dw_oa41 {CALL : sx_Ca} {sL : Nat} {sx : Nat → Int32} {Q : Nat → sx_L → sx_S → Prop} {R : Int → sx_S → Prop} {s : sx_S} {a0 a1 b n x5 lv : Int} (h_al : x5 < n → ∀ K : Int → sx_S → Prop, K lv s → CALL 127 [.inr (.inl 55), .inl a0, .inl a1, .inl x5] s K) (hI : cx_I s) (rl : -2147483648 ≤ lv ∧ lv ≤ 2147483647) (p5 : 0 ≤ x5 ∧ x5 ≤ 4) (pn : 0 ≤ n ∧ n ≤ 4) (pb : -2147483648 ≤ b ∧ b ≤ 2147483647) (hK : n ≤ x5 → R 0 s) (hQ : x5 < n → Q 64 [(0, .inr (.inl 55)), (1, .inl a0), (2, .inl a1), (3, .inl b), (4, .inl n), (5, .inl x5), (6, .inl lv), (7, .inl b), (8, .inl 0)] s) : sx_wp true sL sx eX10_orderArguments CALL [(41, [0, 1, 2, 3, 4, 5]), (64, [0, 1, 2, 3, 4, 5, 6, 7, 8])] Q R 400 41 [(0, .inr (.inl 55)), (1, .inl a0), (2, .inl a1), (3, .inl b), (4, .inl n), (5, .inl x5)] [] s := by
  repeat' (first | (with_reducible (rintro _ rfl)) | (with_reducible intro _) | (refine And.intro ?_ ?_) | (refine h_al (by omega) _ ?_))
  all_goals (try dsimp only at *)
  all_goals (first | trivial | assumption | omega | (exfalso; omega) | (exact hK (by omega)) | (exact hQ (by omega)) | skip)
theorem w_dw_oa64 {CALL : sx_Ca} {sL : Nat} {sx : Nat → Int32} {Q : Nat → sx_L → sx_S → Prop} {R : Int → sx_S → Prop} {s : sx_S} {a0 a1 b n x5 x6 x7 x8 lv : Int} (h_al : x8 < n → ∀ K : Int → sx_S → Prop, K lv s → CALL 127 [.inr (.inl 55), .inl a0, .inl a1, .inl x8] s K) (hI : cx_I s) (rl : -2147483648 ≤ lv ∧ lv ≤ 2147483647) (p7 : 0 ≤ x7 ∧ x7 < 128) (p5 : 0 ≤ x5 ∧ x5 ≤ 3) (p8 : 0 ≤ x8 ∧ x8 ≤ 4) (pn : 0 ≤ n ∧ n ≤ 4) (p6 : -2147483648 ≤ x6 ∧ x6 ≤ 2147483647) (hQ1 : x8 < n → ∀ y : Int, ((lv < x6 ∧ y = x7 + 1) ∨ (x6 ≤ lv ∧ y = x7)) → Q 64 [(0, .inr (.inl 55)), (1, .inl a0), (2, .inl a1), (3, .inl b), (4, .inl n), (5, .inl x5), (6, .inl x6), (7, .inl y), (8, .inl (x8 + 1))] s) (hQ2 : n ≤ x8 → Q 41 [(0, .inr (.inl 55)), (1, .inl a0), (2, .inl a1), (3, .inl b), (4, .inl n), (5, .inl (x5 + 1))] (s.1, sx_ua s.2.1 64 x7.toNat x5, s.2.2)) : sx_wp true sL sx eX10_orderArguments CALL [(41, [0, 1, 2, 3, 4, 5]), (64, [0, 1, 2, 3, 4, 5, 6, 7, 8])] Q R 400 64 [(0, .inr (.inl 55)), (1, .inl a0), (2, .inl a1), (3, .inl b), (4, .inl n), (5, .inl x5), (6, .inl x6), (7, .inl x7), (8, .inl x8)] [] s := by
  have zz8 : sx_w true (x8 + 1) = x8 + 1 := px_wid (by omega) (by omega)
  have zz5 : sx_w true (x5 + 1) = x5 + 1 := px_wid (by omega) (by omega)
  have zz7 : sx_w true (x7 + 1) = x7 + 1 := px_wid (by omega) (by omega)
  have zz0 : sx_w true (x7 + 0) = x7 := by rw [px_wid (by omega) (by omega)]; omega
  repeat' (first | (with_reducible (rintro _ rfl)) | (with_reducible intro _) | (refine And.intro ?_ ?_) | (refine h_al (by omega) _ ?_))
  all_goals (try dsimp only at *)
  all_goals (first | trivial | assumption | omega | (exfalso; omega) | (have zz9 := hQ2 (by omega); rw [← zz5] at zz9; exact zz9) | (have zz9 := hQ1 (by omega) (x7 + 1) (Or.inl ⟨by omega, rfl⟩); rw [← zz8, ← zz7] at zz9; exact zz9) | (have zz9 := hQ1 (by omega) x7 (Or.inr ⟨by omega, rfl⟩); rw [← zz8, ← zz0] at zz9; exact zz9) | skip)
/-- the ARGs' places by the levels D -/
def dw_O (m : Int) (n : Nat) (D : Nat → Int) (s t : sx_S) : Prop := True → (∀ k : Nat, k < n → t.2.1 64 (m * 4 + ((rf_rnk D n k : Nat) : Int)).toNat = (k : Int)) ∧ ∀ j : Nat, (j : Int) < m * 4 ∨ m * 4 + 4 ≤ (j : Int) → t.2.1 64 j = s.2.1 64 j
theorem c_dw_oa {sL : Nat} {sx : Nat → Int32} (hsL : sL ≤ 3072) (d : Nat) (hd : 4 ≤ d) : ∀ (a0 a1 hi m : Int) (F : rf_N) (c : List (Int × Int)) (s : sx_S) (K : Int → sx_S → Prop), cx_I s → (0 ≤ a0 ∧ a0 < s.1 11 6) → (s.2.1 13 a0.toNat = m ∧ 0 ≤ m ∧ m < 32) → dz_nd s F (s.2.1 14 a0.toNat) → s.2.1 16 a0.toNat = (rf_len F : Int) → rf_len F ≤ 4 → dv_c s c hi a1 → hi ≤ s.1 29 3 → (∀ p q, p < rf_len F → q < rf_len F → dv_lk c ((dz_hs F).getD p (-1)) = dv_lk c ((dz_hs F).getD q (-1)) → p = q) → (∀ t, cx_I t → cx_F [(64, 64)] s t → t.1 = s.1 → dw_O m (rf_len F) (fun k => dv_lk c ((dz_hs F).getD k (-1))) s t → K 0 t) → sx_C sL sx d 126 [.inr (.inl 55), .inl a0, .inl a1] s K := by
  intro a0 a1 hi m F c s K hI p0 pm hF hA h4 hc hhi hin hK
  obtain ⟨d, rfl⟩ : ∃ e, d = e + 2 := ⟨d - 2, by omega⟩
  refine sx_methL (wr := true) (n := 400) (n' := 400) (stop := [(41, [0, 1, 2, 3, 4, 5]), (64, [0, 1, 2, 3, 4, 5, 6, 7, 8])]) (fun nn pc ls u => (cx_I u ∧ cx_F [(64, 64)] s u ∧ u.1 = s.1) ∧ (∀ j : Nat, (j : Int) < m * 4 ∨ m * 4 + 4 ≤ (j : Int) → u.2.1 64 j = s.2.1 64 j) ∧ ((pc = 41 ∧ ∃ x5 : Nat, ls = [(0, .inr (.inl 55)), (1, .inl a0), (2, .inl a1), (3, .inl (m * 4)), (4, .inl (rf_len F : Int)), (5, .inl (x5 : Int))] ∧ x5 ≤ rf_len F ∧ (∀ k : Nat, k < x5 → u.2.1 64 (m * 4 + ((rf_rnk (fun k => dv_lk c ((dz_hs F).getD k (-1))) (rf_len F) k : Nat) : Int)).toNat = (k : Int)) ∧ nn = 10 * (4 - x5) + 9) ∨ (pc = 64 ∧ ∃ x5 x8 : Nat, ls = [(0, .inr (.inl 55)), (1, .inl a0), (2, .inl a1), (3, .inl (m * 4)), (4, .inl (rf_len F : Int)), (5, .inl (x5 : Int)), (6, .inl (dv_lk c ((dz_hs F).getD x5 (-1)))), (7, .inl (m * 4 + ((rf_sum (rf_r1 (fun k => dv_lk c ((dz_hs F).getD k (-1))) x5) x8 : Nat) : Int))), (8, .inl (x8 : Int))] ∧ x5 < rf_len F ∧ x8 ≤ rf_len F ∧ (∀ k : Nat, k < x5 → u.2.1 64 (m * 4 + ((rf_rnk (fun k => dv_lk c ((dz_hs F).getD k (-1))) (rf_len F) k : Nat) : Int)).toNat = (k : Int)) ∧ nn = 10 * (4 - x5) + (4 - x8)))) hsL (e := eX10_orderArguments) rfl ?_ ?_
  · exact w_dw_oa (c_dz_head hsL (d + 1) (by omega)) (c_dz_arity hsL (d + 1) (by omega)) hI p0 pm.1 pm.2 hA (by omega) ⟨_, ⟨hI, cx_F_refl _ _, rfl⟩, fun _ _ => rfl, Or.inl ⟨rfl, 0, rfl, by omega, fun k hk => absurd hk (by omega), rfl⟩⟩
  · rintro nn pc ls u ⟨⟨u1, u2, u3⟩, u4, ⟨rfl, x5, rfl, h5, h6, rfl⟩ | ⟨rfl, x5, x8, rfl, h5, h8, h6, rfl⟩⟩
    · have nf : dv_nf (s.1 11 6) (fun _ => []) (fun _ => []) s u := dv_nf_F _ u2 (by decide)
      have hFu : dz_nd u F (u.2.1 14 a0.toNat) := by
        rw [(u2.same 14 rfl).2]
        exact dz_nd_fr hF (nf trivial).1 (fun i hi => rf_nd_lt hF i hi)
      have hcu : dv_c u c hi a1 := dv_ch_fr (fun i _ => by rw [(u2.same 30 rfl).2, (u2.same 31 rfl).2, (u2.same 32 rfl).2]; exact ⟨rfl, rfl, rfl⟩) hc
      refine w_dw_oa41 (lv := dv_lk c ((dz_hs F).getD x5 (-1))) (fun hlt K' hK' => c_dw_al hsL (d + 1) (by omega) a0 a1 hi x5 F c u K' u1 (by rw [u3]; exact p0) hFu (by omega) h4 hcu (by rw [u3]; exact hhi) hK') u1 (dv_lk_rng hI hc _) (by omega) (by omega) (by omega) (fun hge => hK u u1 u2 u3 (fun _ => ⟨fun k hk => h6 k (by omega), u4⟩)) (fun hlt => ⟨_, by omega, ⟨u1, u2, u3⟩, u4, Or.inr ⟨rfl, x5, 0, ?_, by omega, by omega, h6, rfl⟩⟩)
      show _ = [_, _, _, _, _, _, _, (7, Sum.inl (m * 4 + ((0 : Nat) : Int))), _]
      rw [show m * 4 + ((0 : Nat) : Int) = m * 4 by omega]
      rfl
    · have nf : dv_nf (s.1 11 6) (fun _ => []) (fun _ => []) s u := dv_nf_F _ u2 (by decide)
      have hFu : dz_nd u F (u.2.1 14 a0.toNat) := by
        rw [(u2.same 14 rfl).2]
        exact dz_nd_fr hF (nf trivial).1 (fun i hi => rf_nd_lt hF i hi)
      have hcu : dv_c u c hi a1 := dv_ch_fr (fun i _ => by rw [(u2.same 30 rfl).2, (u2.same 31 rfl).2, (u2.same 32 rfl).2]; exact ⟨rfl, rfl, rfl⟩) hc
      have hs3 : rf_sum (rf_r1 (fun k => dv_lk c ((dz_hs F).getD k (-1))) x5) x8 ≤ 3 := by
        have q1 : ∀ a c' : Nat, rf_sum (rf_r1 (fun k => dv_lk c ((dz_hs F).getD k (-1))) x5) a ≤ rf_sum (rf_r1 (fun k => dv_lk c ((dz_hs F).getD k (-1))) x5) (a + c') := fun a c' => by
          induction c' with
          | zero => exact Nat.le_refl _
          | succ c' ih =>
            rw [show a + (c' + 1) = (a + c') + 1 from rfl, rf_sum_s]
            omega
        have q2 := q1 x8 (rf_len F - x8)
        rw [show x8 + (rf_len F - x8) = rf_len F by omega] at q2
        have q3 := rf_rnk_lt (D := fun k => dv_lk c ((dz_hs F).getD k (-1))) (n := rf_len F) h5
        unfold rf_rnk at q3
        omega
      refine w_dw_oa64 (lv := dv_lk c ((dz_hs F).getD x8 (-1))) (fun hlt K' hK' => c_dw_al hsL (d + 1) (by omega) a0 a1 hi x8 F c u K' u1 (by rw [u3]; exact p0) hFu (by omega) h4 hcu (by rw [u3]; exact hhi) hK') u1 (dv_lk_rng hI hc _) (by omega) (by omega) (by omega) (by omega) (dv_lk_rng hI hc _) (fun hlt y hy => ⟨10 * (4 - x5) + (4 - (x8 + 1)), by omega, ⟨u1, u2, u3⟩, u4, Or.inr ⟨rfl, x5, x8 + 1, ?_, h5, by omega, h6, rfl⟩⟩) (fun hge => ⟨10 * (4 - (x5 + 1)) + 9, by omega, ⟨cx_I_ua rfl rfl u1 (by omega) (by omega), cx_F_ua rfl u2, u3⟩, fun j hj => ?_, Or.inl ⟨rfl, x5 + 1, rfl, by omega, fun k hk => ?_, rfl⟩⟩)
      · have ey : y = m * 4 + ((rf_sum (rf_r1 (fun k => dv_lk c ((dz_hs F).getD k (-1))) x5) (x8 + 1) : Nat) : Int) := by
          rw [rf_sum_s]
          rcases hy with ⟨z1, z2⟩ | ⟨z1, z2⟩
          · have : rf_r1 (fun k => dv_lk c ((dz_hs F).getD k (-1))) x5 x8 = 1 := if_pos z1
            omega
          · have : rf_r1 (fun k => dv_lk c ((dz_hs F).getD k (-1))) x5 x8 = 0 := if_neg (by dsimp only; omega)
            omega
        rw [ey]
        rfl
      · show sx_ua u.2.1 64 _ _ 64 j = _
        rw [sx_ua_same]
        dsimp only
        rw [if_neg (by omega)]
        exact u4 j hj
      · have e8 : x8 = rf_len F := by omega
        show sx_ua u.2.1 64 _ _ 64 _ = _
        rw [sx_ua_same]
        dsimp only
        rw [e8]
        have el : rf_sum (rf_r1 (fun k => dv_lk c ((dz_hs F).getD k (-1))) x5) (rf_len F) = rf_rnk (fun k => dv_lk c ((dz_hs F).getD k (-1))) (rf_len F) x5 := rfl
        rw [el]
        by_cases c5 : k = x5
        · rw [c5, if_pos rfl]
        · have hne : rf_rnk (fun k => dv_lk c ((dz_hs F).getD k (-1))) (rf_len F) k ≠ rf_rnk (fun k => dv_lk c ((dz_hs F).getD k (-1))) (rf_len F) x5 := fun e => c5 (rf_rnk_inj (D := fun k => dv_lk c ((dz_hs F).getD k (-1))) hin (by omega) h5 e)
          rw [if_neg (by omega)]
          exact h6 k (by omega)
end
section
/-! ===== the desk: a step of numbering ===== -/
theorem wd_nd_inj {l : List Int} (h : l.Nodup) {p q : Nat} (hp : p < l.length) (hq : q < l.length) (e : l[p] = l[q]) : p = q := by
  have hh := List.pairwise_iff_getElem.mp h
  rcases Nat.lt_trichotomy p q with c | c | c
  · exact absurd e (hh p q hp hq c)
  · exact c
  · exact absurd e.symm (hh q p hq hp c)
/-- the writer's pile: entries (A, c), L, mark -/
def wd_ws (s : sx_S) (AR : Nat → List Int) : Int → List dv_K → Prop
  | _, [] => True
  | hi, p :: r => (p.2.2 ≤ hi ∧ 0 ≤ p.2.2) ∧ (dv_at s AR p.1.1 (s.2.1 57 r.length) ∧ dv_c s p.1.2 p.2.2 (s.2.1 58 r.length)) ∧ (s.2.1 61 r.length = p.2.1 ∧ s.2.1 62 r.length = p.2.2) ∧ wd_ws s AR p.2.2 r
theorem wd_ws_fr {s t : sx_S} {AR AR' : Nat → List Int} {n : Int} (hn : s.1 11 6 ≤ n) (h : dv_nf n AR AR' s t) : ∀ {r : List dv_K} {hi : Int}, (∀ j : Nat, (j : Int) < hi → t.2.1 30 j = s.2.1 30 j ∧ t.2.1 31 j = s.2.1 31 j ∧ t.2.1 32 j = s.2.1 32 j) → (∀ j : Nat, j < r.length → t.2.1 57 j = s.2.1 57 j ∧ t.2.1 58 j = s.2.1 58 j ∧ t.2.1 61 j = s.2.1 61 j ∧ t.2.1 62 j = s.2.1 62 j) → wd_ws s AR hi r → wd_ws t AR' hi r
  | [], _, _, _, _ => trivial
  | p :: r, hi, hc, hp, ⟨⟨q1, q2⟩, ⟨q3, q4⟩, ⟨q7, q8⟩, q9⟩ => by
    obtain ⟨e1, e2, e5, e6⟩ := hp r.length (by rw [List.length_cons]; omega)
    have hc' : ∀ j : Nat, (j : Int) < p.2.2 → t.2.1 30 j = s.2.1 30 j ∧ t.2.1 31 j = s.2.1 31 j ∧ t.2.1 32 j = s.2.1 32 j := fun j hj => hc j (by omega)
    refine ⟨⟨q1, q2⟩, ⟨?_, ?_⟩, ⟨by rw [e5]; exact q7, by rw [e6]; exact q8⟩, wd_ws_fr hn h hc' (fun j hj => hp j (by rw [List.length_cons]; omega)) q9⟩
    · rw [e1]
      exact dv_at_fr hn h q3
    · rw [e2]
      exact dv_ch_fr hc' q4
theorem wd_ws_hi {s : sx_S} {AR : Nat → List Int} {hi hi' : Int} (h : hi ≤ hi') : ∀ {r : List dv_K}, wd_ws s AR hi r → wd_ws s AR hi' r
  | [], _ => trivial
  | _ :: _, ⟨⟨q1, q2⟩, q3⟩ => ⟨⟨by omega, q2⟩, q3⟩
/-- numbers and orders in memory -/
def wd_N (s : sx_S) (S : vx_S) (a : List (Int × List Int)) : Prop := True → s.1 55 8 = (a.length : Int) ∧ (a.map Prod.fst).Nodup ∧ (∀ p ∈ a, ∃ m : Int, p.1 = -1 - m ∧ 0 ≤ m ∧ m < S.1) ∧ ∀ m : Int, 0 ≤ m → m < S.1 → (S.2.2.2.1 m = none → (s.2.1 63 m.toNat = -1 ∧ -1 - m ∉ a.map Prod.fst) ∨ ∃ (i : Nat) (xs : List Int), a[i]? = some (-1 - m, xs) ∧ s.2.1 63 m.toNat = (i : Int) ∧ (xs.length : Int) = S.2.2.1 m ∧ (∀ p q : Nat, p < xs.length → q < xs.length → xs.getD p (-1) = xs.getD q (-1) → p = q) ∧ ∀ k : Nat, k < xs.length → s.2.1 64 (m * 4 + ((rf_rnk (fun i => xs.getD i (-1)) xs.length k : Nat) : Int)).toNat = (k : Int)) ∧ (S.2.2.2.1 m ≠ none → -1 ≤ s.2.1 63 m.toNat ∧ s.2.1 63 m.toNat ≤ 0)
theorem wd_N_same {s t : sx_S} {S : vx_S} {a : List (Int × List Int)} (e8 : t.1 55 8 = s.1 55 8) (e63 : t.2.1 63 = s.2.1 63) (e64 : t.2.1 64 = s.2.1 64) (h : wd_N s S a) : wd_N t S a := fun _ => by
  have h' := h trivial
  rw [e8, e63, e64]
  exact h'
theorem wd_N_len {s : sx_S} {S : vx_S} {a : List (Int × List Int)} (h32 : S.1 ≤ 32) (h : wd_N s S a) : a.length ≤ 32 := by
  obtain ⟨_, h2, h3, _⟩ := h trivial
  have h4 : (a.map (fun p => -1 - p.1)).Nodup := by
    have e : a.map (fun p => -1 - p.1) = (a.map Prod.fst).map (fun x => -1 - x) := by
      rw [List.map_map]
      rfl
    rw [e]
    exact List.Pairwise.map (fun x => -1 - x) (fun x y hxy e => hxy (by omega)) h2
  have := vx_ls_1 (n := 32) h4 (fun x hx => by
    obtain ⟨p, hp, rfl⟩ := List.mem_map.mp hx
    obtain ⟨m, e, m0, m1⟩ := h3 p hp
    omega)
  rw [List.length_map] at this
  exact this
/-- the given unknowns that were read -/
def wd_sn (s : sx_S) (S : vx_S) (m : Int) : Prop := (0 ≤ m ∧ m < S.1) ∧ S.2.2.2.1 m ≠ none ∧ 0 ≤ s.2.1 63 m.toNat
def wd_it (k : dv_K) : wd_I := (k.1.1, dv_lk k.1.2, k.2.1)
/-- what holds while it numbers: cur is looked at just now; then the pile ws; a: what is numbered, Z: what will be -/
def wd_K (tv tc : Int → rf_T) (n0 : Int) (Qs : (Int → rf_N) → Prop) (th : Int → rf_N) (rk : Int → Nat) (bs : Nat) (Z : List (Int × List Int)) (u : sx_S) (S : vx_S) (PR : Int → List (Int × Int)) (tm : Int → Int → rf_T) (a : List (Int × List Int)) (cur : List wd_I) (ws : List dv_K) : Prop := True → dv_G tv tc n0 Qs u S PR tm [] [] ∧ (wd_ws u S.2.2.2.2 (u.1 29 3) ws ∧ u.1 56 6 = (ws.length : Int)) ∧ wd_N u S a ∧ wd_P th S.2.2.2.2 rk (wd_sn u S) a Z (cur ++ ws.map wd_it) ∧ wd_ks S bs 0 ws ∧ (vx_So S th ∧ (∀ m, S.2.2.2.1 m = none → th m = vx_gn S.2.2.1 m) ∧ vx_rk S rk ∧ bs ≤ 385)
def wd_cs (s : sx_S) : Nat := vx_sm (fun m => if s.2.1 63 m.toNat < 0 then 1 else 0) 32
def wd_ms (s : sx_S) (ws : List dv_K) : Nat := dv_hz ws + 1025 * wd_cs s
theorem wd_ms_e {s u : sx_S} {ws : List dv_K} (h : u.2.1 63 = s.2.1 63) : wd_ms u ws = wd_ms s ws := by
  unfold wd_ms wd_cs
  rw [h]
theorem wd_G_F {tv tc : Int → rf_T} {n0 : Int} {Qs : (Int → rf_N) → Prop} {s u : sx_S} {S : vx_S} {PR : Int → List (Int × Int)} {tm : Int → Int → rf_T} (h : dv_G tv tc n0 Qs s S PR tm [] []) (hI : cx_I u) (hF : cx_F [(29, 32), (55, 65)] s u) : dv_G tv tc n0 Qs u S PR tm [] [] := fun _ => by
  obtain ⟨g1, g2, g3, g4, ⟨_, g6⟩, g7, g8⟩ := h trivial
  have nf : dv_nf (s.1 11 6) S.2.2.2.2 S.2.2.2.2 s u := dv_nf_F _ hF (by decide)
  exact ⟨hI, dv_M_fr (Int.le_refl _) (by rw [(hF.same 11 rfl).1]) nf (by rw [(hF.same 33 rfl).1]) (hF.same 34 rfl).2 (hF.same 35 rfl).2 (hF.same 36 rfl).2 (hF.same 37 rfl).2 g2, g3, g4, ⟨trivial, by rw [(hF.same 39 rfl).1]; exact g6⟩, g7, g8⟩
/-- links and the pile alone have changed -/
theorem wd_K_F {tv tc : Int → rf_T} {n0 : Int} {Qs : (Int → rf_N) → Prop} {th : Int → rf_N} {rk : Int → Nat} {bs : Nat} {Z : List (Int × List Int)} {s u : sx_S} {S : vx_S} {PR : Int → List (Int × Int)} {tm : Int → Int → rf_T} {a : List (Int × List Int)} {cur cur' : List wd_I} {ws ws' : List dv_K} (h : wd_K tv tc n0 Qs th rk bs Z s S PR tm a cur ws) (hI : cx_I u) (hF : cx_F [(29, 32), (56, 62)] s u) (hws : wd_ws u S.2.2.2.2 (u.1 29 3) ws') (h56 : u.1 56 6 = (ws'.length : Int)) (hP : wd_P th S.2.2.2.2 rk (wd_sn s S) a Z (cur' ++ ws'.map wd_it)) (hks : wd_ks S bs 0 ws') : wd_K tv tc n0 Qs th rk bs Z u S PR tm a cur' ws' := fun _ => by
  obtain ⟨hG, _, hN, _, _, hS⟩ := h trivial
  have e63 : u.2.1 63 = s.2.1 63 := (hF.same 63 rfl).2
  have esn : wd_sn u S = wd_sn s S := by
    funext m
    unfold wd_sn
    rw [e63]
  exact ⟨wd_G_F hG hI (cx_F_step hF rfl (cx_F_refl _ _)), ⟨hws, h56⟩, wd_N_same (by rw [(hF.same 55 rfl).1]) e63 (hF.same 64 rfl).2 hN, by rw [esn]; exact hP, hks, hS⟩
theorem wd_wz_it {F : rf_N} {c : List (Int × Int)} {L mk : Int} : (dv_wz F c L mk).map wd_it = (vx_el F).map (fun A => (A, dv_lk c, L)) := by
  unfold dv_wz
  rw [List.map_map]
  rfl
/-- the call of an open unknown: what is met there -/
theorem wd_open {S : vx_S} {th : Int → rf_N} (hS : vx_So S th) {j : Nat} {m L : Int} {F : rf_N} {e : Int → Int} (ho : th m = vx_gn S.2.2.1 m) (hl : ((S.2.2.2.2 j).length : Int) = S.2.2.1 m) : ∃ Fv, wd_v th S.2.2.2.2 (rf_n j 3 m F .leaf, e, L) = rf_n 0 1 (-1 - m) Fv .leaf ∧ dz_hs Fv = (S.2.2.2.2 j).map e := by
  refine ⟨vx_re (vx_ix ((S.2.2.2.2 j).map e) L) (vx_vs (S.2.2.1 m).toNat 0), ?_, ?_⟩
  · show vx_val th S.2.2.2.2 (rf_n j 3 m F .leaf) e L = _
    rw [vx_call (fun m => (hS.1 m).1), ho]
    unfold vx_gn
    rw [vx_re_in]
    dsimp only
    rw [if_neg (by decide)]
    rfl
  · obtain ⟨a, b, c⟩ := wz_vs (S.2.2.1 m).toNat 0
    rw [wz_hs_re _ a]
    refine List.ext_getElem? (fun i => ?_)
    rw [List.getElem?_map, List.getElem?_map]
    by_cases hi : i < (S.2.2.1 m).toNat
    · have hi2 : i < (S.2.2.2.2 j).length := by omega
      rw [c i hi, List.getElem?_eq_getElem hi2]
      show some (vx_ix ((S.2.2.2.2 j).map e) L (0 + (i : Int))) = some (e (S.2.2.2.2 j)[i])
      unfold vx_ix
      rw [List.length_map, if_pos (by omega), show (0 + (i : Int)).toNat = i by omega, vx_getD_map e _ _ hi2, vx_gD hi2]
    · rw [List.getElem?_eq_none (by omega), List.getElem?_eq_none (by omega)]
      rfl
/-- one more is numbered -/
theorem wd_N_add {s t : sx_S} {S : vx_S} {a : List (Int × List Int)} {m : Int} {xs : List Int} (h : wd_N s S a) (m0 : 0 ≤ m) (m1 : m < S.1) (hb : S.2.2.2.1 m = none) (hs : s.2.1 63 m.toNat < 0) (hl : (xs.length : Int) = S.2.2.1 m) (h4 : ∀ x, 0 ≤ x → x < S.1 → S.2.2.1 x ≤ 4) (hin : ∀ p q : Nat, p < xs.length → q < xs.length → xs.getD p (-1) = xs.getD q (-1) → p = q) (e8 : t.1 55 8 = s.1 55 8 + 1) (e63 : ∀ j : Nat, t.2.1 63 j = if j = m.toNat then s.1 55 8 else s.2.1 63 j) (hO : dw_O m xs.length (fun i => xs.getD i (-1)) s t) : -1 - m ∉ a.map Prod.fst ∧ wd_N t S (a ++ [(-1 - m, xs)]) := by
  obtain ⟨h1, h2, h3, h5⟩ := h trivial
  obtain ⟨o1, o2⟩ := hO trivial
  have hno : -1 - m ∉ a.map Prod.fst := by
    rcases (h5 m m0 m1).1 hb with ⟨_, c⟩ | ⟨i, xs', _, c, _⟩
    · exact c
    · omega
  refine ⟨hno, fun _ => ⟨by rw [e8, h1, List.length_append]; rfl, ?_, fun p hp => ?_, fun x x0 x1 => ⟨fun hx => ?_, fun hx => ?_⟩⟩⟩
  · rw [List.map_append, List.nodup_append]
    refine ⟨h2, List.nodup_cons.mpr ⟨List.not_mem_nil, List.nodup_nil⟩, fun z hz w hw e => hno ?_⟩
    have : w = -1 - m := List.mem_singleton.mp hw
    rw [← this, ← e]
    exact hz
  · rcases List.mem_append.mp hp with hp | hp
    · exact h3 p hp
    · rw [List.mem_singleton.mp hp]
      exact ⟨m, rfl, m0, m1⟩
  · by_cases c : x = m
    · subst c
      exact Or.inr ⟨a.length, xs, by rw [List.getElem?_append_right (Nat.le_refl _), Nat.sub_self]; rfl, by rw [e63, if_pos rfl]; exact h1, hl, hin, o1⟩
    · have hxn : x.toNat ≠ m.toNat := by omega
      rcases (h5 x x0 x1).1 hx with ⟨c1, c2⟩ | ⟨i, ys, c1, c2, c3, c4, c5⟩
      · refine Or.inl ⟨by rw [e63, if_neg hxn]; exact c1, ?_⟩
        rw [List.map_append, List.mem_append]
        rintro (z | z)
        · exact c2 z
        · have : -1 - x = -1 - m := List.mem_singleton.mp z
          omega
      · refine Or.inr ⟨i, ys, ?_, by rw [e63, if_neg hxn]; exact c2, c3, c4, fun k hk => ?_⟩
        · have hi : i < a.length := (List.getElem?_eq_some_iff.mp c1).1
          rw [List.getElem?_append_left hi]
          exact c1
        · have hrk := rf_rnk_lt (D := fun i => ys.getD i (-1)) (n := ys.length) hk
          have h4x := h4 x x0 x1
          rw [o2 _ (by omega)]
          exact c5 k hk
  · have hxm : x ≠ m := fun e => hx (by rw [e]; exact hb)
    rw [e63, if_neg (by omega)]
    exact (h5 x x0 x1).2 hx
set_option maxRecDepth 4000 in
theorem c_dw_ns {tv tc : Int → rf_T} {n0 : Int} {Qs : (Int → rf_N) → Prop} {th : Int → rf_N} {rk : Int → Nat} {bs : Nat} {Z : List (Int × List Int)} {sL : Nat} {sx : Nat → Int32} (hsL : sL ≤ 3072) (d : Nat) (hd : 7 ≤ d) : ∀ (S : vx_S) (PR : Int → List (Int × Int)) (tm : Int → Int → rf_T) (a : List (Int × List Int)) (k : dv_K) (ws : List dv_K) (s : sx_S) (K : Int → sx_S → Prop), wd_K tv tc n0 Qs th rk bs Z s S PR tm a [] (k :: ws) → (∀ u a' ws', wd_K tv tc n0 Qs th rk bs Z u S PR tm a' [] ws' → cx_F [(29, 32), (55, 64)] s u → u.1 55 11 = s.1 55 11 → wd_ms u ws' < wd_ms s (k :: ws) → K 0 u) → sx_C sL sx d 125 [.inr (.inl 55)] s K := by
  intro S PR tm a k ws s K hWK hK
  obtain ⟨hG, ⟨⟨⟨w1, w2⟩, ⟨w3, w4⟩, ⟨w5, w6⟩, w7⟩, w8⟩, hN, hP, ⟨⟨k1, k2, k3⟩, k4⟩, hS, ho, hrk, hbs⟩ := hWK trivial
  obtain ⟨g1, g2, g3, g4, ⟨g5, g6⟩, g7, g8⟩ := hG trivial
  obtain ⟨⟨W, B1, Sc, _⟩, TS⟩ := g3 trivial
  obtain ⟨⟨M1, M2, M3, M5⟩, M4⟩ := g2 trivial
  have hg : ∀ m, vx_on (th m) := fun m => (hS.1 m).1
  rw [List.length_cons] at w8
  have en : (s.1 56 6 - 1).toNat = ws.length := by omega
  have msk : wd_ms s (k :: ws) = vx_hz k.1.1 + wd_ms s ws := by
    unfold wd_ms
    show vx_hz k.1.1 + dv_hz ws + _ = _
    omega
  obtain ⟨d, rfl⟩ : ∃ e, d = e + 2 := ⟨d - 2, by omega⟩
  refine sx_methL (wr := true) (n := 400) (n' := 400) (stop := [(48, [0, 1, 2, 3, 4]), (127, [0, 1, 2, 3, 4]), (165, [0, 1, 2, 3])]) (fun nn pc ls u => (pc = 48 ∧ ∃ (z cc L' : Int) (x4 : Nat) (A : rf_N) (c : List (Int × Int)), ls = [(0, .inr (.inl 55)), (1, .inl z), (2, .inl cc), (3, .inl L'), (4, .inl (x4 : Int))] ∧ wd_K tv tc n0 Qs th rk bs Z u S PR tm a [(A, dv_lk c, L')] ws ∧ (cx_F [(29, 32), (55, 64)] s u ∧ u.1 55 = s.1 55) ∧ u.2.1 63 = s.2.1 63 ∧ dv_at u S.2.2.2.2 A z ∧ dv_c u c (u.1 29 3) cc ∧ wd_sd S L' A c ∧ vx_c1 S bs A (u.1 29 3) L' ws.length ∧ vx_hz A ≤ vx_hz k.1.1 ∧ x4 + vx_lh A ≤ 67 ∧ nn = 200 + vx_lh A) ∨ (pc = 127 ∧ ∃ (z cc L' x4 : Int) (j : Nat) (kk h : Int) (F : rf_N) (c : List (Int × Int)) (v : sx_S), ls = [(0, .inr (.inl 55)), (1, .inl z), (2, .inl cc), (3, .inl L'), (4, .inl x4)] ∧ wd_K tv tc n0 Qs th rk bs Z v S PR tm a [(rf_n j kk h F .leaf, dv_lk c, L')] ws ∧ (cx_F [(29, 32), (55, 64)] s v ∧ v.1 55 = s.1 55) ∧ v.2.1 63 = s.2.1 63 ∧ dv_at v S.2.2.2.2 (rf_n j kk h F .leaf) z ∧ dv_c v c (v.1 29 3) cc ∧ wd_sd S L' (rf_n j kk h F .leaf) c ∧ vx_c1 S bs (rf_n j kk h F .leaf) (v.1 29 3) L' ws.length ∧ vx_hz (rf_n j kk h F .leaf) ≤ vx_hz k.1.1 ∧ (kk = 1 ∨ kk = 2) ∧ (-1 ≤ x4 ∧ x4 < (rf_len F : Int)) ∧ cx_I u ∧ cx_F [(56, 62)] v u ∧ wd_ws u S.2.2.2.2 (u.1 29 3) ((dv_wz F c L' (v.1 29 3)).drop (x4 + 1).toNat ++ ws) ∧ u.1 56 6 + x4 + 1 = (ws.length : Int) + (rf_len F : Int) ∧ nn = (x4 + 1).toNat) ∨ (pc = 165 ∧ ∃ (z cc L' : Int) (j : Nat) (h : Int) (F : rf_N) (c : List (Int × Int)), ls = [(0, .inr (.inl 55)), (1, .inl z), (2, .inl cc), (3, .inl L')] ∧ wd_K tv tc n0 Qs th rk bs Z u S PR tm a [(rf_n j 3 h F .leaf, dv_lk c, L')] ws ∧ (cx_F [(29, 32), (55, 64)] s u ∧ u.1 55 = s.1 55) ∧ u.2.1 63 = s.2.1 63 ∧ dv_at u S.2.2.2.2 (rf_n j 3 h F .leaf) z ∧ dv_c u c (u.1 29 3) cc ∧ wd_sd S L' (rf_n j 3 h F .leaf) c ∧ vx_c1 S bs (rf_n j 3 h F .leaf) (u.1 29 3) L' ws.length ∧ 1 ≤ vx_hz k.1.1 ∧ nn = 100)) hsL (e := eX10_numberStep) rfl ?_ ?_
  · refine w_dw_ns (c_dv_pop56 hsL (d + 1) (by omega)) (c_dv_pmark56 hsL (d + 1) (by omega)) (c_dv_rel hsL (d + 1) (by omega)) (c_dv_pnode56 hsL (d + 1) (by omega)) (c_dv_pchain56 hsL (d + 1) (by omega)) (c_dv_plevel56 hsL (d + 1) (by omega)) g1 (by omega) (by rw [en, w6]; omega) (fun u u1 u2 u3 u4 => ?_)
    rw [en] at u4 ⊢
    rw [w6] at u4
    have nf : dv_nf (s.1 11 6) S.2.2.2.2 S.2.2.2.2 s u := dv_nf_F _ u2 (by decide)
    have lk : ∀ i : Nat, u.2.1 30 i = s.2.1 30 i ∧ u.2.1 31 i = s.2.1 31 i ∧ u.2.1 32 i = s.2.1 32 i := fun i => by
      rw [(u2.same 30 rfl).2, (u2.same 31 rfl).2, (u2.same 32 rfl).2]
      exact ⟨rfl, rfl, rfl⟩
    have sws : wd_ws u S.2.2.2.2 (u.1 29 3) ws := by
      rw [u4]
      refine wd_ws_fr (Int.le_refl _) nf (fun i _ => lk i) (fun i _ => ?_) w7
      rw [(u2.same 57 rfl).2, (u2.same 58 rfl).2, (u2.same 61 rfl).2, (u2.same 62 rfl).2]
      exact ⟨rfl, rfl, rfl, rfl⟩
    have k1' := k1
    have v1 := wd_K_F (cur' := [wd_it k]) (ws' := ws) hWK u1 (cx_F_step u2 rfl (cx_F_refl _ _)) sws (by omega) hP k4
    have v1' : wd_K tv tc n0 Qs th rk bs Z u S PR tm a [(k.1.1, dv_lk k.1.2, s.2.1 61 ws.length)] ws := by
      rw [w5]
      exact v1
    refine ⟨_, Or.inl ⟨rfl, _, _, _, 0, k.1.1, k.1.2, rfl, v1', ⟨cx_F_step u2 rfl (cx_F_refl _ _), (u2.same 55 rfl).1⟩, (u2.same 63 rfl).2, dv_at_fr (Int.le_refl _) nf w3, by rw [u4]; exact dv_ch_fr (fun i _ => lk i) w4, by rw [w5]; exact k1', by rw [u4, w5]; exact k3, Nat.le_refl _, ?_, rfl⟩⟩
    obtain ⟨_, _, ⟨q, _⟩, _⟩ := k3 trivial
    omega
  · rintro nn pc ls u (⟨rfl, z, cc, L', x4, A, c, rfl, i1, ⟨i3, i3b⟩, i4, i5, i6, i7, i9, i10, i11, rfl⟩ | ⟨rfl, z, cc, L', x4, j, kk, h, F, c, v, rfl, i1, ⟨i3, i3b⟩, i4, i5, i6, i7, i9, i10, i11, i13, i14, i15, i16, i17, rfl⟩ | ⟨rfl, z, cc, L', j, h, F, c, rfl, i1, ⟨i3, i3b⟩, i4, i5, i6, i7, i9, i10, rfl⟩)
    · obtain ⟨hGu, ⟨x1, x2⟩, yN, yP, yks, _⟩ := i1 trivial
      obtain ⟨z1, _⟩ := hGu trivial
      have h29 := z1.fld 29 3 (by decide) rfl
      have rc := dv_ch_rng i6
      obtain ⟨b1, b2, b3, b4⟩ := vx_c1_bd hrk W g4 hbs i9
      obtain ⟨⟨in1, ⟨j, kk, h, F, rfl⟩⟩, ⟨L'0, _⟩, _⟩ := i7 trivial
      obtain ⟨q1, q2, q3, q4, q5, q6, q7, q8, q9, q10⟩ := dv_at_hd i5
      by_cases hk0 : kk = 0
      · subst hk0
        obtain ⟨⟨e1, e2, e3⟩, e4⟩ := dv_at_lam i5
        have hF : vx_sg F := by
          obtain ⟨a, b, c', d', ee, _⟩ := e4
          exact ⟨a, b, c', d', ee⟩
        obtain ⟨l1, l2⟩ := vx_lh_lam (j := j) (x := h) (F := F)
        rw [l1] at i11 b1 b2
        have sd' := wd_sd_lam hF i7
        refine w_dw_ns48y (c_dz_kind hsL (d + 1) (by omega)) (c_dz_head hsL (d + 1) (by omega)) (c_dz_body hsL (d + 1) (by omega)) (c_dv_with hsL (d + 1) (by omega)) z1 (dv_at_z i5) (by omega) (by omega) (by omega) e1 (by omega) (fun t u1 u2 u3 => ?_)
        rw [e2] at u3
        have p1 := (u3 trivial).1
        have lf := dv_w1_lf u3
        have nf : dv_nf (u.1 11 6) S.2.2.2.2 S.2.2.2.2 u t := dv_nf_F _ u2 (by decide)
        have sws : wd_ws t S.2.2.2.2 (t.1 29 3) ws := wd_ws_hi (lf trivial).1 (wd_ws_fr (Int.le_refl _) nf (lf trivial).2 (fun i _ => by
          rw [(u2.same 57 rfl).2, (u2.same 58 rfl).2, (u2.same 61 rfl).2, (u2.same 62 rfl).2]
          exact ⟨rfl, rfl, rfl, rfl⟩) x1)
        have v1 := wd_K_F (cur' := [(F, dv_lk ((h, L') :: c), L' + 1)]) (ws' := ws) i1 u1 (cx_F_step u2 rfl (cx_F_refl _ _)) sws (by rw [(u2.same 56 rfl).1]; exact x2) (by rw [dv_lk_up]; exact wd_P_lam yP) yks
        exact ⟨200 + vx_lh F, by rw [l1]; omega, Or.inl ⟨rfl, u.2.1 14 z.toNat, u.1 29 3, L' + 1, x4 + 1, F, (h, L') :: c, rfl, v1, ⟨cx_F_step u2 rfl i3, (u2.same 55 rfl).1.trans i3b⟩, by rw [(u2.same 63 rfl).2]; exact i4, dv_at_fr (Int.le_refl _) nf e4, dv_w1_c h29.1 u3 (Int.le_refl _) i6, sd', by rw [p1]; exact vx_c1_lam i9, by rw [vx_hz_lam vx_03] at i10; omega, by omega, rfl⟩⟩
      · obtain ⟨q7a, q7b⟩ := q7 hk0
        refine w_dw_ns48n (c_dz_kind hsL (d + 1) (by omega)) (c_dz_arity hsL (d + 1) (by omega)) z1 (dv_at_z i5) (by omega) (by omega) (by omega) (by rw [q3]; exact hk0) (by rw [q7a]; omega) (fun hk => ?_) (fun hk => ?_)
        · rw [q3] at hk
          refine ⟨rf_len F, by omega, Or.inr (Or.inl ⟨rfl, z, cc, L', _, j, kk, h, F, c, u, rfl, i1, ⟨i3, i3b⟩, i4, i5, i6, i7, i9, i10, by omega, by rw [q7a]; omega, z1, cx_F_refl _ _, ?_, by rw [q7a]; omega, by rw [q7a]; omega⟩)⟩
          have e1 : (u.2.1 16 z.toNat - 1 + 1).toNat = rf_len F := by omega
          rw [e1, List.drop_of_length_le (by rw [dv_wz_len]; exact Nat.le_refl _)]
          exact x1
        · rw [q3] at hk
          subst hk
          rw [vx_hz_call] at i10
          exact ⟨100, by omega, Or.inr (Or.inr ⟨rfl, z, cc, L', j, h, F, c, rfl, i1, ⟨i3, i3b⟩, i4, i5, i6, i7, i9, i10, rfl⟩)⟩
    · obtain ⟨hGu, ⟨x1, x2⟩, yN, yP, yks, _⟩ := i1 trivial
      obtain ⟨z1, _⟩ := hGu trivial
      have h29 := z1.fld 29 3 (by decide) rfl
      have rc := dv_ch_rng i6
      obtain ⟨b1, b2, b3, b4⟩ := vx_c1_bd hrk W g4 hbs i9
      obtain ⟨⟨in1, _⟩, ⟨L'0, _⟩, _⟩ := i7 trivial
      obtain ⟨q1, q2, q3, q4, q5, q6, q7, q8, q9, q10⟩ := dv_at_hd i5
      obtain ⟨q7a, q7b⟩ := q7 (by omega)
      have trF := q9 i11
      have hk0 : kk ≠ 0 := by omega
      have hk3 : kk ≠ 3 := by omega
      have nf : dv_nf (v.1 11 6) S.2.2.2.2 S.2.2.2.2 v u := dv_nf_F _ i15 (by decide)
      have e11 : u.1 11 = v.1 11 := (i15.same 11 rfl).1
      have e29 : u.1 29 = v.1 29 := (i15.same 29 rfl).1
      have lk : ∀ i : Nat, u.2.1 30 i = v.2.1 30 i ∧ u.2.1 31 i = v.2.1 31 i ∧ u.2.1 32 i = v.2.1 32 i := fun i => by
        rw [(i15.same 30 rfl).2, (i15.same 31 rfl).2, (i15.same 32 rfl).2]
        exact ⟨rfl, rfl, rfl⟩
      have zl := dv_wz_len (F := F) (c := c) (L := L') (mk := v.1 29 3)
      by_cases hx : 0 ≤ x4
      · have a3' : dz_nd u F (u.2.1 14 z.toNat) := by
          rw [(i15.same 14 rfl).2]
          exact dz_nd_fr q6 (nf trivial).1 (fun i hi => rf_nd_lt q6 i hi)
        have a8' : dv_tr (u.2.1 16) S.2.2.2.2 F := by rw [(i15.same 16 rfl).2]; exact trF
        obtain ⟨w, hw⟩ := dv_drx x4.toNat a3'
        obtain ⟨A, eA, tA⟩ := dv_el_at (by omega) a8' hw
        have hlt : x4.toNat < (dv_wz F c L' (v.1 29 3)).length := by omega
        have zat : (dv_wz F c L' (v.1 29 3))[x4.toNat]? = some ((A, c), L', v.1 29 3) := by
          unfold dv_wz
          rw [List.getElem?_map, eA]
          rfl
        have zdr : (dv_wz F c L' (v.1 29 3)).drop x4.toNat = ((A, c), L', v.1 29 3) :: (dv_wz F c L' (v.1 29 3)).drop (x4.toNat + 1) := by
          rw [List.drop_eq_getElem_cons hlt]
          rw [List.getElem?_eq_getElem hlt] at zat
          rw [Option.some.inj zat]
        have rlen : (((dv_wz F c L' (v.1 29 3)).drop (x4 + 1).toNat ++ ws).length : Int) = u.1 56 6 := by
          rw [List.length_append, List.length_drop, zl]
          omega
        refine w_dw_ns127 (w := w) (c_dv_mark hsL (d + 1) (by omega)) (c_dv_push56 hsL (d + 1) (by omega)) (fun _ K' hK' => ?_) i14 (by omega) (by omega) (by omega) (fun _ => dv_at_z tA) (fun _ => by omega) (fun q => absurd q (by omega)) (fun _ t u1 u2 u3 => ?_)
        · refine c_dz_arg hsL (d + 1) (by omega) _ _ F _ _ i14 (by have := dv_at_z i5; rw [e11]; exact this) (by omega) a3' (fun z' _ q' => ?_)
          rw [dv_nd1 q' hw]
          exact hK'
        · obtain ⟨s1, s2, s3, s4, s5, s6, s7, s8⟩ := u3 trivial
          have nf2 : dv_nf (u.1 11 6) S.2.2.2.2 S.2.2.2.2 u t := dv_nf_F _ u2 (by decide)
          have lk2 : ∀ i : Nat, t.2.1 30 i = u.2.1 30 i ∧ t.2.1 31 i = u.2.1 31 i ∧ t.2.1 32 i = u.2.1 32 i := fun i => by
            rw [(u2.same 30 rfl).2, (u2.same 31 rfl).2, (u2.same 32 rfl).2]
            exact ⟨rfl, rfl, rfl⟩
          have t29 : t.1 29 3 = v.1 29 3 := by rw [(u2.same 29 rfl).1, e29]
          have ix : (u.1 56 6).toNat = ((dv_wz F c L' (v.1 29 3)).drop (x4 + 1).toNat ++ ws).length := by omega
          rw [ix] at s3 s4 s5 s6 s7 s8
          have key : wd_ws t S.2.2.2.2 (t.1 29 3) (((A, c), L', v.1 29 3) :: ((dv_wz F c L' (v.1 29 3)).drop (x4 + 1).toNat ++ ws)) := by
            refine ⟨⟨by show v.1 29 3 ≤ t.1 29 3; omega, h29.1⟩, ⟨?_, ?_⟩, ⟨s7, ?_⟩, ?_⟩
            · rw [s3]
              exact dv_at_fr (Int.le_refl _) nf2 tA
            · rw [s4]
              exact dv_ch_fr (fun i _ => lk2 i) (dv_ch_fr (fun i _ => lk i) i6)
            · rw [s8]
              show u.1 29 3 = v.1 29 3
              rw [e29]
            · refine wd_ws_fr (Int.le_refl _) nf2 (fun i _ => lk2 i) (fun i hi => ?_) (by rw [e29] at i16; exact i16)
              obtain ⟨o1, o2, _, _, o5, o6⟩ := s2 i (by omega)
              exact ⟨o1, o2, o5, o6⟩
          refine ⟨x4.toNat, by omega, Or.inr (Or.inl ⟨rfl, z, cc, L', x4 - 1, j, kk, h, F, c, v, rfl, i1, ⟨i3, i3b⟩, i4, i5, i6, i7, i9, i10, i11, by omega, u1, cx_F_step u2 rfl i15, ?_, by omega, by omega⟩)⟩
          rw [show (x4 - 1 + 1).toNat = x4.toNat by omega, zdr, List.cons_append, show x4.toNat + 1 = (x4 + 1).toNat by omega]
          exact key
      · have ex : x4 = -1 := by omega
        refine w_dw_ns127 (w := 0) (c_dv_mark hsL (d + 1) (by omega)) (c_dv_push56 hsL (d + 1) (by omega)) (fun q => absurd q hx) i14 (by omega) (by omega) (by omega) (fun q => absurd q hx) (fun q => absurd q hx) (fun _ => ?_) (fun q => absurd q hx)
        rw [ex] at i16
        have i16' : wd_ws u S.2.2.2.2 (u.1 29 3) (dv_wz F c L' (v.1 29 3) ++ ws) := i16
        have hTy : ∀ A ∈ vx_el F, wd_sd S L' A c := fun A hA => wd_sd_el hk0 hk3 hA i7
        have hc1 : kk = 1 → 0 ≤ h := fun _ => q5
        have v1 := wd_K_F (cur' := []) (ws' := dv_wz F c L' (v.1 29 3) ++ ws) i1 i14 (cx_F_step i15 rfl (cx_F_refl _ _)) i16' (by rw [List.length_append, zl]; omega) (by rw [List.map_append, wd_wz_it]; exact wd_P_rig hg hk0 hk3 hc1 yP) (wd_ks_wz L'0 yks (by rw [vx_el_len]; exact q7b) (fun A hA => ⟨hTy A hA, fun i' hi' => vx_c1_el hk0 hk3 hA hi' i9⟩))
        refine hK u a _ v1 (cx_F_step i15 rfl i3) ?_ ?_
        · rw [(i15.same 55 rfl).1, i3b]
        · have e63 : u.2.1 63 = s.2.1 63 := by rw [(i15.same 63 rfl).2]; exact i4
          rw [wd_ms_e e63]
          unfold wd_ms at msk ⊢
          rw [dv_wz_hz]
          rw [vx_hz_lam hk3] at i10
          omega
    · obtain ⟨hGu, ⟨x1, x2⟩, yN, yP, yks, _⟩ := i1 trivial
      obtain ⟨z1, z2, _⟩ := hGu trivial
      obtain ⟨⟨N1, N2, N3, N5⟩, N4⟩ := z2 trivial
      have h29 := z1.fld 29 3 (by decide) rfl
      have rc := dv_ch_rng i6
      obtain ⟨b1, b2, b3, b4⟩ := vx_c1_bd hrk W g4 hbs i9
      obtain ⟨⟨in1, _⟩, ⟨L'0, hck⟩, _⟩ := i7 trivial
      obtain ⟨q1, q2, q3, q4, q5, q6, q7, q8, q9, q10⟩ := dv_at_hd i5
      obtain ⟨q7a, q7b⟩ := q7 (by decide)
      obtain ⟨q13, q14, q15⟩ := q10 rfl
      obtain ⟨m0, m1⟩ := in1.1 h (Or.inl ⟨rfl, rfl⟩)
      have hl := vx_in_len in1
      have lF : (S.2.2.2.2 j).length = rf_len F := by rw [q13, dz_hs_len]
      obtain ⟨n1, n2, n3, n4⟩ := yN trivial
      have nlen := wd_N_len (by omega) yN
      obtain ⟨a4, bm⟩ := N4 h m0 m1
      have hoc : ∀ x, wz_oc x (wd_v th S.2.2.2.2 (rf_n j 3 h F .leaf, dv_lk c, L')) ↔ wz_oc x (th h) := fun x => by
        show wz_oc x (vx_val th S.2.2.2.2 (rf_n j 3 h F .leaf) (dv_lk c) L') ↔ _
        rw [vx_call hg, wz_oc_re]
      have hmt : vx_mt h (rf_n j 3 h F .leaf) := Or.inl ⟨rfl, rfl⟩
      refine w_dw_ns165 (m := h) (b := u.2.1 34 h.toNat) (G3 := fun k' t => cx_I t ∧ cx_F [(29, 32)] (u.1, sx_ua u.2.1 63 h.toNat 0, u.2.2) t ∧ dv_lf (u.1, sx_ua u.2.1 63 h.toNat 0, u.2.2) t ∧ t.1 29 3 = u.1 29 3 + ((PR h).length : Int) ∧ dv_c t (dv_in (PR h) (dz_hs F) c) (t.1 29 3) k') (G4 := fun t => cx_I t ∧ cx_F [(64, 64)] (sx_uf u.1 55 8 (u.1 55 8 + 1), sx_ua u.2.1 63 h.toNat (u.1 55 8), u.2.2) t ∧ t.1 = sx_uf u.1 55 8 (u.1 55 8 + 1) ∧ dw_O h (rf_len F) (fun k => dv_lk c ((dz_hs F).getD k (-1))) (sx_uf u.1 55 8 (u.1 55 8 + 1), sx_ua u.2.1 63 h.toNat (u.1 55 8), u.2.2) t) (c_dz_head hsL (d + 1) (by omega)) (c_dv_body hsL (d + 1) (by omega)) (c_dv_mark hsL (d + 1) (by omega)) (c_dv_push56 hsL (d + 1) (by omega)) (fun hneg hb K' hK' => ?_) (fun k' t ht => ?_) (fun hneg hb K' hK' => ?_) z1 (dv_at_z i5) (by omega) (by omega) q4 ⟨m0, by omega, by omega⟩ rfl (by omega) (fun hge => ?_) (fun hneg hb k' t ht t' u1 u2 u3 => ?_) (fun hneg hb t ht => ?_)
      · rcases bm with ⟨_, q⟩ | ⟨B, bm1, bm2, bm3, bm4, bm5, bm6⟩
        · omega
        · have hPl : ((PR h).length : Int) ≤ (vx_aa S h : Int) := by
            have n1 : ((PR h).map Prod.snd).length ≤ (S.2.2.1 h).toNat := vx_ls_1 bm6 (fun x hx => by
              obtain ⟨q, hq1, hq2⟩ := List.mem_map.mp hx
              have := bm4 q hq1
              rw [← hq2]
              omega)
            rw [List.length_map] at n1
            unfold vx_aa
            omega
          have ha4 : vx_aa S h ≤ 4 := by unfold vx_aa; omega
          exact c_dv_ins hsL (d + 1) (by omega) z cc (u.1 29 3) h F (PR h) c (u.1, sx_ua u.2.1 63 h.toNat 0, u.2.2) K' (cx_I_ua rfl rfl z1 (by decide) (by decide)) (dv_at_z i5) ⟨q4, m0, by omega⟩ q6 bm3 (fun q hq => by have := bm4 q hq; omega) (by omega) i6 (Int.le_refl _) (by show u.1 29 3 + _ ≤ 1024; omega) (fun z t t1 t2 t3 t4 t5 => hK' z t ⟨t1, t2, t3, t4, t5⟩)
      · obtain ⟨y1, y2, y3, y4, y5⟩ := ht
        have r5 := dv_ch_rng y5
        have y6 := y1.fld 29 3 (by decide) rfl
        refine ⟨y1, by omega, ?_⟩
        rw [(y2.same 56 rfl).1]
        show u.1 56 6 < 512
        omega
      · have hx : S.2.2.2.1 h = none := by
          rcases bm with ⟨q, _⟩ | ⟨B, _, q, _⟩
          · exact q
          · have := dv_at_z q
            omega
        have hop := wd_sd_open hx hl i7
        obtain ⟨_, hinj⟩ := vx_ck_lk L'0 hck
        have hI2 : cx_I (sx_uf u.1 55 8 (u.1 55 8 + 1), sx_ua u.2.1 63 h.toNat (u.1 55 8), u.2.2) := cx_I_uf rfl rfl (cx_I_ua rfl rfl z1 (by omega) (by omega)) (by omega) (by omega)
        refine c_dw_oa hsL (d + 1) (by omega) z cc (u.1 29 3) h F c _ K' hI2 (dv_at_z i5) ⟨q4, m0, by omega⟩ q6 q7a q7b i6 (by show u.1 29 3 ≤ sx_uf u.1 55 8 (u.1 55 8 + 1) 29 3; rw [sx_uf_if, if_neg (fun cc => absurd cc.1 (by decide))]; exact Int.le_refl _) (fun p q hp hq e => ?_) (fun t t1 t2 t3 t4 => hK' t ⟨t1, t2, t3, t4⟩)
        have hp' : p < (dz_hs F).length := by rw [dz_hs_len]; exact hp
        have hq' : q < (dz_hs F).length := by rw [dz_hs_len]; exact hq
        rw [vx_gD hp', vx_gD hq'] at e
        have e2 := hinj _ _ (hop _ (by rw [q13]; exact List.getElem_mem hp')) e
        have hnd : (dz_hs F).Nodup := by rw [← q13]; exact q14
        exact wd_nd_inj hnd hp' hq' e2
      · have hdr : ∀ x, wz_oc x (wd_v th S.2.2.2.2 (rf_n j 3 h F .leaf, dv_lk c, L')) → x ∈ a.map Prod.fst := fun x hx => by
          by_cases hb : S.2.2.2.1 h = none
          · rcases (n4 h m0 m1).1 hb with ⟨c1, _⟩ | ⟨i, xs, c1, _⟩
            · omega
            · rw [hoc, ho h hb] at hx
              have hx' : wz_oc x (.inner 0 (1, -1 - h) () (vx_vs (S.2.2.1 h).toNat 0) .leaf) := hx
              rw [wz_oc_in, if_pos ⟨rfl, by show -1 - h < 0; omega⟩] at hx'
              rcases hx' with hx' | hx'
              · rw [← hx']
                exact List.mem_map.mpr ⟨_, List.mem_of_getElem? c1, rfl⟩
              · exact hx'.elim
          · exact wd_P_sn (m := h) ⟨⟨m0, m1⟩, hb, hge⟩ hmt yP x ((hoc x).mp hx)
        have v1 := wd_K_F (cur' := []) (ws' := ws) i1 z1 (cx_F_refl _ _) x1 x2 (wd_P_drop hdr yP) yks
        refine hK u a ws v1 i3 (by rw [i3b]) ?_
        rw [wd_ms_e i4]
        omega
      · rcases bm with ⟨_, q⟩ | ⟨B, bm1, bm2, bm3, bm4, bm5, bm6⟩
        · omega
        · obtain ⟨y1, y2, y3, y4, y5⟩ := ht
          have hB : vx_sg B := by
            obtain ⟨a, b, cc, dd, ee, _⟩ := bm2
            exact ⟨a, b, cc, dd, ee⟩
          have hPl : ((PR h).length : Int) ≤ (vx_aa S h : Int) := by
            have n1 : ((PR h).map Prod.snd).length ≤ (S.2.2.1 h).toNat := vx_ls_1 bm6 (fun x hx => by
              obtain ⟨q, hq1, hq2⟩ := List.mem_map.mp hx
              have := bm4 q hq1
              rw [← hq2]
              omega)
            rw [List.length_map] at n1
            unfold vx_aa
            omega
          have hF1 : cx_F [(29, 32), (56, 63)] u t' := cx_F_step u2 rfl (cx_F_step y2 rfl (cx_F_ua rfl (cx_F_refl _ _)))
          have ua : ∀ q, q ≠ 63 → sx_ua u.2.1 63 h.toNat 0 q = u.2.1 q := fun q hq => sx_ua_ne hq
          have e63 : t'.2.1 63 = fun i => if i = h.toNat then 0 else u.2.1 63 i := by
            rw [(u2.same 63 rfl).2, (y2.same 63 rfl).2]
            show sx_ua u.2.1 63 h.toNat 0 63 = _
            exact sx_ua_same _ _ _ _
          have e29 : t'.1 29 3 = t.1 29 3 := by rw [(u2.same 29 rfl).1]
          have e56 : t.1 56 6 = u.1 56 6 := by rw [(y2.same 56 rfl).1]
          have lk0 : ∀ i : Nat, t'.2.1 30 i = t.2.1 30 i ∧ t'.2.1 31 i = t.2.1 31 i ∧ t'.2.1 32 i = t.2.1 32 i := fun i => by
            rw [(u2.same 30 rfl).2, (u2.same 31 rfl).2, (u2.same 32 rfl).2]
            exact ⟨rfl, rfl, rfl⟩
          have lf : ∀ i : Nat, (i : Int) < u.1 29 3 → t'.2.1 30 i = u.2.1 30 i ∧ t'.2.1 31 i = u.2.1 31 i ∧ t'.2.1 32 i = u.2.1 32 i := fun i hi => by
            obtain ⟨p1, p2, p3⟩ := lk0 i
            obtain ⟨p4, p5, p6⟩ := (y3 trivial).2 i hi
            refine ⟨p1.trans (p4.trans ?_), p2.trans (p5.trans ?_), p3.trans (p6.trans ?_)⟩
            · exact congrFun (ua 30 (by decide)) i
            · exact congrFun (ua 31 (by decide)) i
            · exact congrFun (ua 32 (by decide)) i
          have nf : dv_nf (u.1 11 6) S.2.2.2.2 S.2.2.2.2 u t' := dv_nf_F _ hF1 (by decide)
          obtain ⟨x1', x2', x3'⟩ := dv_in_lk (c := c) (P := PR h) (hs := S.2.2.2.2 j) bm5 (fun q hq => by have := bm4 q hq; omega)
          obtain ⟨p1, p2, p3, p4, p5, p6, p7, p8⟩ := u3 trivial
          have ix : (t.1 56 6).toNat = ws.length := by omega
          rw [ix] at p3 p4 p5 p6 p7 p8
          have hc1' := vx_c1_in (u' := t.1 29 3) g4 hB bm1 (by omega) i9
          have hzB := (vx_c1_bd hrk W g4 hbs hc1').2.2.2
          have hv : wd_v th S.2.2.2.2 (B, dv_lk (dv_in (PR h) (S.2.2.2.2 j) c), L') = wd_v th S.2.2.2.2 (rf_n j 3 h F .leaf, dv_lk c, L') := (vx_call_body hS bm1 hl (fun z => by have := x3' z; omega) x1').symm
          have hNt : wd_N t' S a := fun _ => by
            refine ⟨by rw [(u2.same 55 rfl).1, (y2.same 55 rfl).1]; exact n1, n2, n3, fun x x0 x1 => ⟨fun hx => ?_, fun hx => ?_⟩⟩
            · have hxh : x ≠ h := fun e => by
                rw [e, bm1] at hx
                cases hx
              rw [e63, (u2.same 64 rfl).2, (y2.same 64 rfl).2]
              dsimp only
              rw [if_neg (by omega), ua 64 (by decide)]
              exact (n4 x x0 x1).1 hx
            · rw [e63]
              dsimp only
              by_cases q : x.toNat = h.toNat
              · rw [if_pos q]
                omega
              · rw [if_neg q]
                exact (n4 x x0 x1).2 hx
          refine hK t' a (((B, dv_in (PR h) (S.2.2.2.2 j) c), L', t.1 29 3) :: ws) (fun _ => ⟨wd_G_F hGu u1 (cx_F_step hF1 rfl (cx_F_refl _ _)), ⟨⟨⟨by show t.1 29 3 ≤ t'.1 29 3; omega, by show 0 ≤ t.1 29 3; omega⟩, ⟨?_, ?_⟩, ⟨p7, p8⟩, ?_⟩, ?_⟩, hNt, wd_P_in (m := h) (fun x hx => ?_) hv (fun x hx => (hoc x).mpr hx) hmt (fun x hx => hrk h B _ x bm1 hx) yP, ⟨⟨wd_sd_body g3 bm1 q14 i7, L'0, hc1'⟩, yks⟩, hS, ho, hrk, hbs⟩) (cx_F_step hF1 rfl i3) (by rw [(u2.same 55 rfl).1, (y2.same 55 rfl).1]; show u.1 55 11 = _; rw [i3b]) ?_
          · rw [p3]
            exact dv_at_fr (Int.le_refl _) nf bm2
          · rw [p4, q13]
            exact dv_ch_fr (fun i _ => lk0 i) y5
          · refine wd_ws_hi (by show u.1 29 3 ≤ t.1 29 3; omega) (wd_ws_fr (Int.le_refl _) nf lf (fun i hi => ?_) x1)
            obtain ⟨r1, r2, _, _, r5, r6⟩ := p2 i (by omega)
            refine ⟨r1.trans ?_, r2.trans ?_, r5.trans ?_, r6.trans ?_⟩
            · rw [(y2.same 57 rfl).2]
              exact congrFun (ua 57 (by decide)) i
            · rw [(y2.same 58 rfl).2]
              exact congrFun (ua 58 (by decide)) i
            · rw [(y2.same 61 rfl).2]
              exact congrFun (ua 61 (by decide)) i
            · rw [(y2.same 62 rfl).2]
              exact congrFun (ua 62 (by decide)) i
          · rw [List.length_cons]
            omega
          · obtain ⟨h1, h2, h3⟩ := hx
            rw [e63] at h3
            dsimp only at h3
            by_cases q : x = h
            · exact Or.inr q
            · rw [if_neg (by omega)] at h3
              exact Or.inl ⟨h1, h2, h3⟩
          · have f1 : t'.2.1 63 h.toNat = 0 := by
              rw [e63]
              exact if_pos rfl
            have f2 : ∀ i : Nat, (i : Int) ≠ h → t'.2.1 63 (i : Int).toNat = s.2.1 63 (i : Int).toNat := fun i hx => by
              rw [e63, ← i4]
              exact if_neg (by omega)
            have up := vx_sm_up (f := fun x => if t'.2.1 63 x.toNat < 0 then 1 else 0) (g := fun x => if s.2.1 63 x.toNat < 0 then 1 else 0) (x := h) (n := 32) m0 (by omega) (fun i hi hx => by
              show (if t'.2.1 63 (i : Int).toNat < 0 then 1 else 0) = (if s.2.1 63 (i : Int).toNat < 0 then 1 else 0)
              rw [f2 i hx])
            have w1 : (if t'.2.1 63 h.toNat < 0 then 1 else 0 : Nat) = 0 := if_neg (by rw [f1]; decide)
            have w2 : (if s.2.1 63 h.toNat < 0 then 1 else 0 : Nat) = 1 := if_pos (by rw [← i4]; exact hneg)
            try dsimp only at up
            rw [w1, w2] at up
            have z1 : dv_hz (((B, dv_in (PR h) (S.2.2.2.2 j) c), L', t.1 29 3) :: ws) = vx_hz B + dv_hz ws := rfl
            unfold wd_ms wd_cs at msk ⊢
            rw [z1]
            omega
      · have hx : S.2.2.2.1 h = none := by
          rcases bm with ⟨q, _⟩ | ⟨B, _, q, _⟩
          · exact q
          · have := dv_at_z q
            omega
        obtain ⟨y1, y2, y3, y4⟩ := ht
        have hop := wd_sd_open hx hl i7
        obtain ⟨_, hinj⟩ := vx_ck_lk L'0 hck
        obtain ⟨Fv, eV, eF⟩ := wd_open (F := F) (e := dv_lk c) (L := L') hS (ho h hx) hl
        have hxl : ((S.2.2.2.2 j).map (dv_lk c)).length = rf_len F := by rw [List.length_map, lF]
        have hxg : ∀ p, p < rf_len F → ((S.2.2.2.2 j).map (dv_lk c)).getD p (-1) = dv_lk c ((dz_hs F).getD p (-1)) := fun p hp => by
          rw [vx_getD_map (dv_lk c) _ _ (by omega), q13]
        have hF1 : cx_F [(55, 55), (63, 64)] u t := cx_F_step y2 rfl (cx_F_uf rfl (cx_F_ua rfl (cx_F_refl _ _)))
        have e63 : ∀ i : Nat, t.2.1 63 i = if i = h.toNat then u.1 55 8 else u.2.1 63 i := fun i => by
          rw [(y2.same 63 rfl).2]
          show sx_ua u.2.1 63 h.toNat (u.1 55 8) 63 i = _
          rw [sx_ua_same]
        have e8 : t.1 55 8 = u.1 55 8 + 1 := by
          rw [y3, sx_uf_if, if_pos ⟨rfl, rfl⟩]
        have hOt : dw_O h ((S.2.2.2.2 j).map (dv_lk c)).length (fun i => ((S.2.2.2.2 j).map (dv_lk c)).getD i (-1)) u t := fun _ => by
          obtain ⟨o1, o2⟩ := y4 trivial
          refine ⟨fun k hk => ?_, fun i hi => ?_⟩
          · rw [hxl] at hk ⊢
            rw [we_rnk_cg hxg hk]
            exact o1 k hk
          · rw [o2 i hi]
            show sx_ua u.2.1 63 h.toNat (u.1 55 8) 64 i = _
            rw [sx_ua_ne (by decide)]
        obtain ⟨hno, hNt⟩ := wd_N_add (t := t) yN m0 m1 hx hneg (by omega) (fun x x0 x1 => (M4 x x0 x1).1) (fun p q hp hq e => by
          rw [hxl] at hp hq
          rw [hxg p hp, hxg q hq] at e
          have hp' : p < (dz_hs F).length := by rw [dz_hs_len]; exact hp
          have hq' : q < (dz_hs F).length := by rw [dz_hs_len]; exact hq
          rw [vx_gD hp', vx_gD hq'] at e
          have e2 := hinj _ _ (hop _ (by rw [q13]; exact List.getElem_mem hp')) e
          have hnd : (dz_hs F).Nodup := by rw [← q13]; exact q14
          exact wd_nd_inj hnd hp' hq' e2) e8 e63 hOt
        have hPt := wd_P_op eV (by omega) yP
        rw [eF] at hPt
        have ead : wz_ad a (-1 - h) ((S.2.2.2.2 j).map (dv_lk c)) = a ++ [(-1 - h, (S.2.2.2.2 j).map (dv_lk c))] := if_neg hno
        rw [ead] at hPt
        have esn : wd_sn t S = wd_sn u S := by
          funext x
          unfold wd_sn
          rw [e63]
          by_cases q : x = h
          · rw [q]
            exact propext ⟨fun hh => absurd hx hh.2.1, fun hh => absurd hx hh.2.1⟩
          · refine propext ⟨fun hh => ⟨hh.1, hh.2.1, ?_⟩, fun hh => ⟨hh.1, hh.2.1, ?_⟩⟩
            · have h3 := hh.2.2
              rw [if_neg (by have := hh.1; omega)] at h3
              exact h3
            · rw [if_neg (by have := hh.1; omega)]
              exact hh.2.2
        have nf : dv_nf (u.1 11 6) S.2.2.2.2 S.2.2.2.2 u t := dv_nf_F _ hF1 (by decide)
        refine hK t _ ws (fun _ => ⟨wd_G_F hGu y1 (cx_F_step hF1 rfl (cx_F_refl _ _)), ⟨?_, ?_⟩, hNt, by rw [esn]; exact hPt, yks, hS, ho, hrk, hbs⟩) (cx_F_step hF1 rfl i3) ?_ ?_
        · rw [(hF1.same 29 rfl).1]
          refine wd_ws_fr (Int.le_refl _) nf (fun i _ => ?_) (fun i _ => ?_) x1
          · rw [(hF1.same 30 rfl).2, (hF1.same 31 rfl).2, (hF1.same 32 rfl).2]
            exact ⟨rfl, rfl, rfl⟩
          · rw [(hF1.same 57 rfl).2, (hF1.same 58 rfl).2, (hF1.same 61 rfl).2, (hF1.same 62 rfl).2]
            exact ⟨rfl, rfl, rfl, rfl⟩
        · rw [(hF1.same 56 rfl).1]
          exact x2
        · rw [y3, sx_uf_if, if_neg (fun cc => absurd cc.2 (by decide)), i3b]
        · have f1 : t.2.1 63 h.toNat = u.1 55 8 := by
            rw [e63, if_pos rfl]
          have f2 : ∀ i : Nat, (i : Int) ≠ h → t.2.1 63 (i : Int).toNat = s.2.1 63 (i : Int).toNat := fun i hx => by
            rw [e63, ← i4]
            exact if_neg (by omega)
          have up := vx_sm_up (f := fun x => if t.2.1 63 x.toNat < 0 then 1 else 0) (g := fun x => if s.2.1 63 x.toNat < 0 then 1 else 0) (x := h) (n := 32) m0 (by omega) (fun i hi hx => by
            show (if t.2.1 63 (i : Int).toNat < 0 then 1 else 0) = (if s.2.1 63 (i : Int).toNat < 0 then 1 else 0)
            rw [f2 i hx])
          have w1 : (if t.2.1 63 h.toNat < 0 then 1 else 0 : Nat) = 0 := if_neg (by rw [f1]; omega)
          have w2 : (if s.2.1 63 h.toNat < 0 then 1 else 0 : Nat) = 1 := if_pos (by rw [← i4]; exact hneg)
          try dsimp only at up
          rw [w1, w2] at up
          unfold wd_ms wd_cs at msk ⊢
          omega
end
section
/-! ===== the desk: all solutions are read, and numbered ===== -/
theorem w_dv_fill63 {CALL : sx_Ca} {sL : Nat} {sx : Nat → Int32} {Q : Nat → sx_L → sx_S → Prop} {R : Int → sx_S → Prop} {s : sx_S} {v : Int} (hI : cx_I s) (pv : (-2147483648 ≤ v ∧ v ≤ 2147483647)) (hQ : Q 5 [(0, .inr (.inl 63)), (1, .inl v), (2, .inl 0), (3, .inl 32)] s) : sx_wp true sL sx eJ7_fill_53178 CALL [(5, [0, 1, 2, 3])] Q R 400 0 (sx_argsF 0 [.inr (.inl 63), .inl v]) [] s := by
  repeat' (first | (with_reducible (rintro _ rfl)) | (with_reducible intro _) | (refine And.intro ?_ ?_))
  all_goals (try dsimp only at *)
  all_goals (first | trivial | assumption | omega | (exfalso; omega) | skip)
theorem w_dv_fill63_5 {CALL : sx_Ca} {sL : Nat} {sx : Nat → Int32} {Q : Nat → sx_L → sx_S → Prop} {R : Int → sx_S → Prop} {s : sx_S} {v x2 : Int} (hI : cx_I s) (pv : (-2147483648 ≤ v ∧ v ≤ 2147483647)) (q2 : 0 ≤ x2 ∧ x2 ≤ 32) (hK : x2 = 32 → R 0 s) (hQ : x2 < 32 → cx_I (s.1, sx_ua s.2.1 63 x2.toNat v, s.2.2) → Q 5 [(0, .inr (.inl 63)), (1, .inl v), (2, .inl (x2 + 1)), (3, .inl 32)] (s.1, sx_ua s.2.1 63 x2.toNat v, s.2.2)) : sx_wp true sL sx eJ7_fill_53178 CALL [(5, [0, 1, 2, 3])] Q R 400 5 [(0, .inr (.inl 63)), (1, .inl v), (2, .inl x2), (3, .inl 32)] [] s := by
  have zzi : cx_I (s.1, sx_ua s.2.1 63 x2.toNat v, s.2.2) := cx_I_ua rfl rfl hI (by omega) (by omega)
  have zzy : sx_w true (x2 + 1) = x2 + 1 := px_wid (by omega) (by omega)
  repeat' (first | (with_reducible (rintro _ rfl)) | (with_reducible intro _) | (refine And.intro ?_ ?_))
  all_goals (try dsimp only at *)
  all_goals (first | trivial | assumption | omega | (exfalso; omega) | (exact hK (by omega)) | (have zz9 := hQ (by omega) zzi; rw [← zzy] at zz9; exact zz9) | skip)
theorem c_dv_fill63 {sL : Nat} {sx : Nat → Int32} (hsL : sL ≤ 3072) (d : Nat) (hd : 2 ≤ d) : ∀ (v : Int) (s : sx_S) (K : Int → sx_S → Prop), cx_I s → (-2147483648 ≤ v ∧ v ≤ 2147483647) → (∀ t, cx_I t → cx_F [(63, 63)] s t → t.1 = s.1 → (∀ j : Nat, j < 32 → t.2.1 63 j = v) → K 0 t) → sx_C sL sx d 219 [.inr (.inl 63), .inl v] s K := by
  intro v s K hI pv hK
  obtain ⟨d, rfl⟩ : ∃ e, d = e + 2 := ⟨d - 2, by omega⟩
  refine sx_methL (wr := true) (n := 400) (n' := 400) (stop := [(5, [0, 1, 2, 3])]) (fun nn pc ls u => pc = 5 ∧ ∃ x2 : Nat, ls = [(0, .inr (.inl 63)), (1, .inl v), (2, .inl (x2 : Int)), (3, .inl 32)] ∧ cx_I u ∧ cx_F [(63, 63)] s u ∧ u.1 = s.1 ∧ (∀ j : Nat, j < x2 → u.2.1 63 j = v) ∧ x2 ≤ 32 ∧ nn = 32 - x2) hsL (e := eJ7_fill_53178) rfl ?_ ?_
  · exact w_dv_fill63 hI pv ⟨_, rfl, 0, rfl, hI, cx_F_refl _ _, rfl, fun j hj => absurd hj (by omega), by omega, rfl⟩
  · rintro nn pc ls u ⟨rfl, x2, rfl, i1, i2, i3, i4, i5, rfl⟩
    refine w_dv_fill63_5 i1 pv (by omega) (fun h => hK u i1 i2 i3 (fun j hj => i4 j (by omega))) (fun h hI2 => ⟨32 - (x2 + 1), by omega, rfl, x2 + 1, rfl, hI2, cx_F_ua rfl i2, i3, fun j hj => ?_, by omega, rfl⟩)
    show sx_ua u.2.1 63 ((x2 : Int)).toNat v 63 j = v
    rw [sx_ua_same]
    dsimp only
    by_cases q : j = x2
    · rw [if_pos (by omega)]
    · rw [if_neg (by omega)]
      exact i4 j (by omega)
theorem w_dw_ur {CALL : sx_Ca} {sL : Nat} {sx : Nat → Int32} {Q : Nat → sx_L → sx_S → Prop} {R : Int → sx_S → Prop} (h_tot : ∀ (s : sx_S) (K : Int → sx_S → Prop), cx_I s → (∀ z : Int, (z = s.1 22 2) → K z s) → CALL 52 [.inr (.inl 22)] s K) {s : sx_S} {a0 : Int} (hI : cx_I s) (p0 : 0 ≤ a0 ∧ a0 < s.1 22 2 ∧ a0 < 5) (hK : R (s.2.1 25 a0.toNat) s) : sx_wp true sL sx eX1_unknownRoot CALL [] Q R 400 0 (sx_argsF 0 [.inr (.inl 18), .inl a0]) [] s := by
  have zz22 := hI.fld 22 2 (by decide) rfl
  repeat' (first | (with_reducible (rintro _ rfl)) | (with_reducible intro _) | (refine And.intro ?_ ?_) | (refine h_tot s _ hI (fun v v1 => ?_); obtain rfl := v1))
  all_goals (try dsimp only at *)
  all_goals (first | trivial | assumption | omega | (exfalso; omega) | skip)
theorem c_dw_ur {sL : Nat} {sx : Nat → Int32} (hsL : sL ≤ 3072) (d : Nat) (hd : 3 ≤ d) : ∀ (a0 : Int) (s : sx_S) (K : Int → sx_S → Prop), cx_I s → (0 ≤ a0 ∧ a0 < s.1 22 2 ∧ a0 < 5) → K (s.2.1 25 a0.toNat) s → sx_C sL sx d 17 [.inr (.inl 18), .inl a0] s K := by
  intro a0 s K hI p0 hK
  obtain ⟨d, rfl⟩ : ∃ e, d = e + 2 := ⟨d - 2, by omega⟩
  exact sx_meth (wr := true) (n := 400) hsL (e := eX1_unknownRoot) rfl (w_dw_ur (Q := fun _ _ _ => False) (c_dv_tot hsL (d + 1) (by omega)) hI p0 hK)
theorem w_dw_nu {CALL : sx_Ca} {sL : Nat} {sx : Nat → Int32} {Q : Nat → sx_L → sx_S → Prop} {R : Int → sx_S → Prop} {s : sx_S} {G1 G2 G3 : sx_S → Prop} (h_fill : ∀ K : Int → sx_S → Prop, (∀ t, G1 t → K 0 t) → CALL 219 [.inr (.inl 63), .inl (-1)] (sx_uf (sx_uf s.1 55 11 (-1)) 55 8 0, s.2) K) (h_rel : ∀ t, G1 t → ∀ K : Int → sx_S → Prop, (∀ z u, G2 u → K z u) → CALL 45 [.inr (.inl 29), .inl 0] t K) (h_clr : ∀ t, G2 t → ∀ K : Int → sx_S → Prop, (∀ z u, G3 u → K z u) → CALL 58 [.inr (.inl 56)] t K) (h_unk : ∀ t, G3 t → ∀ K : Int → sx_S → Prop, K (s.1 22 2) t → CALL 15 [.inr (.inl 18)] t K) (hI : cx_I s) (pn : 0 ≤ s.1 22 2 ∧ s.1 22 2 ≤ 5) (hQ : ∀ t, G3 t → Q 43 [(0, .inr (.inl 55)), (1, .inl (s.1 22 2 - 1))] t) : sx_wp true sL sx eX10_numberUnknowns CALL [(43, [0, 1]), (73, [0, 1])] Q R 400 0 (sx_argsF 0 [.inr (.inl 55)]) [] s := by
  have zzy : sx_w true (s.1 22 2 - 1) = s.1 22 2 - 1 := px_wid (by omega) (by omega)
  repeat' (first | (with_reducible (rintro _ rfl)) | (with_reducible intro _) | (refine And.intro ?_ ?_) | (refine h_fill _ (fun t1 zz1 => ?_)) | (refine h_rel t1 zz1 _ (fun z2 t2 zz2 => ?_)) | (refine h_clr t2 zz2 _ (fun z3 t3 zz3 => ?_)) | (refine h_unk t3 zz3 _ ?_))
  all_goals (try dsimp only at *)
  all_goals (first | trivial | assumption | omega | (exfalso; omega) | (have zz9 := hQ t3 zz3; rw [← zzy] at zz9; exact zz9) | skip)
theorem w_dw_nu43 {CALL : sx_Ca} {sL : Nat} {sx : Nat → Int32} {Q : Nat → sx_L → sx_S → Prop} {R : Int → sx_S → Prop} (h_push : ∀ (a0 a1 a2 a3 : Int) (s : sx_S) (R : Int → sx_S → Prop), cx_I s → s.1 56 6 < 512 → (-2147483648 ≤ a0 ∧ a0 ≤ 2147483647) → (-2147483648 ≤ a1 ∧ a1 ≤ 2147483647) → (-2147483648 ≤ a2 ∧ a2 ≤ 2147483647) → (-2147483648 ≤ a3 ∧ a3 ≤ 2147483647) → (∀ z t, cx_I t → cx_F [(56, 62)] s t → dv_pu 56 (a0, a1, -1, -1, a2, a3) s t → R z t) → CALL 60 [.inr (.inl 56), .inl a0, .inl a1, .inl a2, .inl a3] s R) {s : sx_S} {x1 w : Int} (h_ur : 0 ≤ x1 → ∀ K : Int → sx_S → Prop, K w s → CALL 17 [.inr (.inl 18), .inl x1] s K) (hI : cx_I s) (q1 : -1 ≤ x1 ∧ x1 ≤ 4) (qw : -2147483648 ≤ w ∧ w ≤ 2147483647) (hN : s.1 56 6 < 512) (hQ1 : x1 < 0 → Q 73 [(0, .inr (.inl 55)), (1, .inl 0)] s) (hQ2 : 0 ≤ x1 → ∀ t, cx_I t → cx_F [(56, 62)] s t → dv_pu 56 (w, -1, -1, -1, 0, 0) s t → Q 43 [(0, .inr (.inl 55)), (1, .inl (x1 - 1))] t) : sx_wp true sL sx eX10_numberUnknowns CALL [(43, [0, 1]), (73, [0, 1])] Q R 400 43 [(0, .inr (.inl 55)), (1, .inl x1)] [] s := by
  have zzy : sx_w true (x1 + (-1)) = x1 - 1 := by rw [px_wid (by omega) (by omega)]; omega
  repeat' (first | (with_reducible (rintro _ rfl)) | (with_reducible intro _) | (refine And.intro ?_ ?_) | (refine h_ur (by omega) _ ?_) | (refine h_push _ _ _ _ s _ hI hN qw (by omega) (by omega) (by omega) (fun z t t1 t2 t3 => ?_)))
  all_goals (try dsimp only at *)
  all_goals (first | trivial | assumption | omega | (exfalso; omega) | (exact hQ1 (by omega)) | (have zz9 := hQ2 (by omega) _ t1 t2 t3; rw [← zzy] at zz9; exact zz9) | skip)
theorem w_dw_nu73 {CALL : sx_Ca} {sL : Nat} {sx : Nat → Int32} {Q : Nat → sx_L → sx_S → Prop} {R : Int → sx_S → Prop} (h_emp : ∀ (s : sx_S) (K : Int → sx_S → Prop), cx_I s → (∀ z : Int, (0 ≤ z ∧ z ≤ 1) → (s.1 56 6 = 0 → z = 1) → (s.1 56 6 ≠ 0 → z = 0) → K z s) → CALL 59 [.inr (.inl 56)] s K) {s : sx_S} {x1 : Int} {G : sx_S → Prop} (h_ns : s.1 56 6 ≠ 0 → ∀ K : Int → sx_S → Prop, (∀ t, G t → K 0 t) → CALL 125 [.inr (.inl 55)] s K) (hI : cx_I s) (q1 : 0 ≤ x1 ∧ x1 < 1000000) (hK : s.1 56 6 = 0 → R 0 s) (hQ : s.1 56 6 ≠ 0 → ∀ t, G t → Q 73 [(0, .inr (.inl 55)), (1, .inl (x1 + 1))] t) : sx_wp true sL sx eX10_numberUnknowns CALL [(43, [0, 1]), (73, [0, 1])] Q R 400 73 [(0, .inr (.inl 55)), (1, .inl x1)] [] s := by
  have zzy : sx_w true (x1 + 1) = x1 + 1 := px_wid (by omega) (by omega)
  repeat' (first | (with_reducible (rintro _ rfl)) | (with_reducible intro _) | (refine And.intro ?_ ?_) | (refine h_emp s _ hI (fun v v0 v1 v2 => ?_)) | (refine h_ns (by omega) _ (fun t zzt => ?_)))
  all_goals (try dsimp only at *)
  all_goals (first | trivial | assumption | omega | (exfalso; omega) | (exact hK (by omega)) | (have zz9 := hQ (by omega) _ zzt; rw [← zzy] at zz9; exact zz9) | skip)
/-- the roots of the unknowns: before all their ARGs -/
def wd_R (S : vx_S) (th : Int → rf_N) (s : sx_S) (l : List rf_N) : Prop := True → s.1 22 2 = (l.length : Int) ∧ ∀ (k : Nat) A, l[k]? = some A → dv_at s S.2.2.2.2 A (s.2.1 25 k) ∧ wd_sd S 0 A [] ∧ (vx_lh A ≤ 67 ∧ vx_hh A ≤ 20 ∧ vx_hz A ≤ 1024) ∧ ∀ a, wz_go (wd_v th S.2.2.2.2 (A, dv_lk [], 0)) a = wz_go (th (k : Int)) a
theorem wd_R_al {S : vx_S} {th : Int → rf_N} {s : sx_S} {l : List rf_N} (h : wd_R S th s l) : ∀ n, n ≤ l.length → wd_f th S.2.2.2.2 ((l.drop (l.length - n)).map (fun A => (A, dv_lk [], 0))) (wz_al th (l.length - n)) = wz_al th l.length
  | 0, _ => by
    rw [Nat.sub_zero, List.drop_length]
    rfl
  | n + 1, hn => by
    have hlt : l.length - (n + 1) < l.length := by omega
    rw [List.drop_eq_getElem_cons hlt]
    obtain ⟨_, h2⟩ := h trivial
    have h3 := (h2 _ _ (List.getElem?_eq_getElem hlt)).2.2.2
    show wd_f th S.2.2.2.2 ((l.drop (l.length - (n + 1) + 1)).map (fun A => (A, dv_lk [], 0))) (wz_go (wd_v th S.2.2.2.2 (l[l.length - (n + 1)], dv_lk [], 0)) (wz_al th (l.length - (n + 1)))) = _
    rw [h3, show l.length - (n + 1) + 1 = l.length - n by omega, show wz_go (th ((l.length - (n + 1) : Nat) : Int)) (wz_al th (l.length - (n + 1))) = wz_al th (l.length - (n + 1) + 1) from rfl, show l.length - (n + 1) + 1 = l.length - n by omega]
    exact wd_R_al h n (by omega)
def wd_rs (l : List rf_N) : List dv_K := l.map (fun A => ((A, []), 0, 0))
theorem wd_rs_it (l : List rf_N) : (wd_rs l).map wd_it = l.map (fun A => (A, dv_lk [], 0)) := by
  unfold wd_rs
  rw [List.map_map]
  rfl
theorem wd_rs_hz : ∀ (l : List rf_N), (∀ A ∈ l, vx_hz A ≤ 1024) → dv_hz (wd_rs l) ≤ 1024 * l.length
  | [], _ => Nat.le_refl _
  | A :: l, h => by
    have ih := wd_rs_hz l (fun B hB => h B (List.mem_cons_of_mem _ hB))
    have h1 := h A List.mem_cons_self
    show vx_hz A + dv_hz (wd_rs l) ≤ _
    rw [List.length_cons]
    omega
theorem wd_cs_le (s : sx_S) : wd_cs s ≤ 32 := by
  unfold wd_cs
  have : ∀ n, vx_sm (fun m => if s.2.1 63 m.toNat < 0 then 1 else 0) n ≤ n := fun n => by
    induction n with
    | zero => exact Nat.le_refl _
    | succ n ih =>
      rw [vx_sm_s]
      by_cases c : s.2.1 63 ((n : Nat) : Int).toNat < 0
      · rw [if_pos c]
        omega
      · rw [if_neg c]
        omega
  exact this 32
theorem wd_rs_ks {S : vx_S} : ∀ {l : List rf_N}, l.length ≤ 5 → (∀ A ∈ l, wd_sd S 0 A [] ∧ (vx_lh A ≤ 67 ∧ vx_hh A ≤ 20 ∧ vx_hz A ≤ 1024)) → wd_ks S 0 0 (wd_rs l)
  | [], _, _ => trivial
  | A :: l, h5, h => by
    rw [List.length_cons] at h5
    obtain ⟨h1, h2, h3, h4⟩ := h A List.mem_cons_self
    refine ⟨⟨h1, Int.le_refl _, fun _ => ⟨[], vx_wu_nil S A, ⟨h2, by show vx_hh A ≤ 26; omega, h4⟩, ?_, ?_, ?_⟩⟩, wd_rs_ks (by omega) (fun B hB => h B (List.mem_cons_of_mem _ hB))⟩
    · show (0 : Int) + (vx_lh A : Int) ≤ 134 + ((0 : Nat) : Int) + (vx_lc S [] : Int)
      have e : vx_lc S [] = 0 := rfl
      omega
    · show (0 : Int) + (vx_lh A : Int) ≤ 1000 + 67 * (vx_ls (vx_rw S) [] : Int)
      have e : vx_ls (vx_rw S) [] = 0 := rfl
      omega
    · have e : vx_ls (vx_rw S) [] = 0 := rfl
      have e2 : (wd_rs l).length = l.length := by unfold wd_rs; rw [List.length_map]
      rw [e]
      show (wd_rs l).length + 3 * vx_hh A ≤ _
      rw [e2]
      omega
theorem c_dw_nu {tv tc : Int → rf_T} {n0 : Int} {Qs : (Int → rf_N) → Prop} {th : Int → rf_N} {rk : Int → Nat} {sL : Nat} {sx : Nat → Int32} (hsL : sL ≤ 3072) (d : Nat) (hd : 9 ≤ d) : ∀ (S : vx_S) (PR : Int → List (Int × Int)) (tm : Int → Int → rf_T) (l : List rf_N) (s : sx_S) (K : Int → sx_S → Prop), dv_G tv tc n0 Qs s S PR tm [] [] → vx_So S th → (∀ m, S.2.2.2.1 m = none → th m = vx_gn S.2.2.1 m) → vx_rk S rk → l.length ≤ 5 → wd_R S th s l → (∀ u, cx_I u → cx_F [(29, 32), (55, 64)] s u → u.1 55 11 = -1 → dv_G tv tc n0 Qs u S PR tm [] [] → wd_N u S (wz_al th l.length) → K 0 u) → sx_C sL sx d 124 [.inr (.inl 55)] s K := by
  intro S PR tm l s K hG hS ho hrk hl5 hR hK
  obtain ⟨g1, g2, g3, g4, _⟩ := hG trivial
  obtain ⟨⟨M1, M2, M3, M5⟩, M4⟩ := g2 trivial
  obtain ⟨R1, R2⟩ := hR trivial
  obtain ⟨d, rfl⟩ : ∃ e, d = e + 2 := ⟨d - 2, by omega⟩
  have hI1 : cx_I (sx_uf (sx_uf s.1 55 11 (-1)) 55 8 0, s.2) := cx_I_uf rfl rfl (cx_I_uf rfl rfl g1 (by decide) (by decide)) (by decide) (by decide)
  have f22 : ∀ (t : sx_S), cx_F [(29, 32), (55, 64)] s t → t.1 22 2 = s.1 22 2 := fun t hF => by rw [(hF.same 22 rfl).1]
  have hRt : ∀ (t : sx_S), cx_F [(29, 32), (55, 64)] s t → ∀ (k : Nat) A, l[k]? = some A → dv_at t S.2.2.2.2 A (s.2.1 25 k) := fun t hF k A hA => dv_at_fr (Int.le_refl _) (dv_nf_F (s.1 11 6) hF (by decide)) (R2 k A hA).1
  refine sx_methL (wr := true) (n := 400) (n' := 400) (stop := [(43, [0, 1]), (73, [0, 1])]) (fun nn pc ls u => (pc = 43 ∧ ∃ x1 : Nat, ls = [(0, .inr (.inl 55)), (1, .inl ((x1 : Int) - 1))] ∧ x1 ≤ l.length ∧ (cx_I u ∧ cx_F [(29, 32), (55, 64)] s u ∧ u.1 55 11 = -1 ∧ u.1 55 8 = 0 ∧ u.1 29 3 = 0) ∧ (∀ j : Nat, j < 32 → u.2.1 63 j = -1) ∧ wd_ws u S.2.2.2.2 (u.1 29 3) (wd_rs (l.drop x1)) ∧ u.1 56 6 = ((l.length - x1 : Nat) : Int) ∧ nn = 2000000 + x1) ∨ (pc = 73 ∧ ∃ (x1 : Nat) (a : List (Int × List Int)) (ws : List dv_K), ls = [(0, .inr (.inl 55)), (1, .inl (x1 : Int))] ∧ wd_K tv tc n0 Qs th rk 0 (wz_al th l.length) u S PR tm a [] ws ∧ cx_F [(29, 32), (55, 64)] s u ∧ u.1 55 11 = -1 ∧ x1 + wd_ms u ws ≤ 1000 + 1024 * 5 + 1025 * 32 ∧ nn = wd_ms u ws)) hsL (e := eX10_numberUnknowns) rfl ?_ ?_
  · refine w_dw_nu (G1 := fun t => cx_I t ∧ cx_F [(63, 63)] (sx_uf (sx_uf s.1 55 11 (-1)) 55 8 0, s.2) t ∧ t.1 = sx_uf (sx_uf s.1 55 11 (-1)) 55 8 0 ∧ ∀ j : Nat, j < 32 → t.2.1 63 j = -1) (G2 := fun t => cx_I t ∧ cx_F [(29, 32), (55, 64)] s t ∧ t.1 55 11 = -1 ∧ t.1 55 8 = 0 ∧ t.1 29 3 = 0 ∧ ∀ j : Nat, j < 32 → t.2.1 63 j = -1) (G3 := fun t => cx_I t ∧ cx_F [(29, 32), (55, 64)] s t ∧ t.1 55 11 = -1 ∧ t.1 55 8 = 0 ∧ t.1 29 3 = 0 ∧ (∀ j : Nat, j < 32 → t.2.1 63 j = -1) ∧ t.1 56 6 = 0) (fun K' hK' => c_dv_fill63 hsL (d + 1) (by omega) (-1) _ K' hI1 (by omega) (fun t t1 t2 t3 t4 => hK' t ⟨t1, t2, t3, t4⟩)) ?_ ?_ ?_ g1 (by omega) (fun t ht => ?_)
    · rintro t ⟨t1, t2, t3, t4⟩ K' hK'
      have h29 := t1.fld 29 3 (by decide) rfl
      refine c_dv_rel hsL (d + 1) (by omega) 0 t K' t1 (by omega) (fun z u u1 u2 u3 => hK' z u ⟨u1, cx_F_step u2 rfl (cx_F_step t2 rfl (cx_F_uf rfl (cx_F_uf rfl (cx_F_refl _ _)))), ?_, ?_, u3 (by omega) (by omega), fun j hj => by rw [(u2.same 63 rfl).2]; exact t4 j hj⟩)
      · rw [(u2.same 55 rfl).1, t3, sx_uf_if, if_neg (fun cc => absurd cc.2 (by decide)), sx_uf_if, if_pos ⟨rfl, rfl⟩]
      · rw [(u2.same 55 rfl).1, t3, sx_uf_if, if_pos ⟨rfl, rfl⟩]
    · rintro t ⟨t1, t2, t3, t4, t5, t6⟩ K' hK'
      exact c_dv_pclear56 hsL (d + 1) (by omega) t K' t1 (fun z u u1 u2 u3 => hK' z u ⟨u1, cx_F_step u2 rfl t2, by rw [(u2.same 55 rfl).1]; exact t3, by rw [(u2.same 55 rfl).1]; exact t4, by rw [(u2.same 29 rfl).1]; exact t5, fun j hj => by rw [(u2.same 63 rfl).2]; exact t6 j hj, u3⟩)
    · rintro t ⟨t1, t2, _⟩ K' hK'
      refine c_dv_unk hsL (d + 1) (by omega) t K' t1 (fun z hz => ?_)
      rw [hz, f22 t t2]
      exact hK'
    · obtain ⟨t1, t2, t3, t4, t5, t6, t7⟩ := ht
      refine ⟨_, Or.inl ⟨rfl, l.length, ?_, Nat.le_refl _, ⟨t1, t2, t3, t4, t5⟩, t6, ?_, ?_, rfl⟩⟩
      · rw [R1]
      · rw [List.drop_length]
        trivial
      · rw [t7, Nat.sub_self]
        rfl
  · rintro nn pc ls u (⟨rfl, x1, rfl, h1, ⟨u1, u2, u3, u4, u5⟩, u6, u7, u8, rfl⟩ | ⟨rfl, x1, a, ws, rfl, u1, u2, u3, u4, rfl⟩)
    · by_cases hx : x1 = 0
      · subst hx
        refine w_dw_nu43 (w := 0) (c_dv_push56 hsL (d + 1) (by omega)) (fun q => absurd q (by omega)) u1 (by omega) (by omega) (by omega) (fun _ => ?_) (fun q => absurd q (by omega))
        rw [List.drop_zero] at u7
        have hN : wd_N u S [] := fun _ => ⟨u4, List.nodup_nil, fun p hp => absurd hp List.not_mem_nil, fun m m0 m1 => ⟨fun _ => Or.inl ⟨u6 m.toNat (by omega), List.not_mem_nil⟩, fun _ => by rw [u6 m.toNat (by omega)]; omega⟩⟩
        have hms : dv_hz (wd_rs l) ≤ 1024 * l.length := wd_rs_hz l (fun A hA => by
          obtain ⟨i, e1, e2⟩ := List.getElem_of_mem hA
          exact (R2 i A (by rw [List.getElem?_eq_getElem e1, e2])).2.2.1.2.2)
        have hcs := wd_cs_le u
        refine ⟨wd_ms u (wd_rs l), ?_, Or.inr ⟨rfl, 0, [], wd_rs l, rfl, fun _ => ⟨wd_G_F hG u1 (cx_F_step u2 rfl (cx_F_refl _ _)), ⟨u7, ?_⟩, hN, fun _ => ⟨?_, fun m hm => ?_⟩, wd_rs_ks hl5 (fun A hA => ?_), hS, ho, hrk, by omega⟩, u2, u3, ?_, rfl⟩⟩
        · unfold wd_ms
          omega
        · rw [u8]
          unfold wd_rs
          rw [List.length_map]
          rfl
        · show wd_f th S.2.2.2.2 ((wd_rs l).map wd_it) [] = _
          rw [wd_rs_it]
          have := wd_R_al hR l.length (Nat.le_refl _)
          rw [Nat.sub_self, List.drop_zero] at this
          exact this
        · have := hm.2.2
          rw [u6 m.toNat (by have := hm.1; omega)] at this
          omega
        · obtain ⟨i, e1, e2⟩ := List.getElem_of_mem hA
          obtain ⟨_, c2, c3, _⟩ := R2 i A (by rw [List.getElem?_eq_getElem e1, e2])
          exact ⟨c2, c3⟩
        · unfold wd_ms
          omega
      · have hlt : x1 - 1 < l.length := by omega
        have hA := hRt u u2 (x1 - 1) l[x1 - 1] (List.getElem?_eq_getElem hlt)
        have hz := dv_at_z hA
        have r6 := u1.fld 11 6 (by decide) rfl
        have e25 : u.2.1 25 = s.2.1 25 := (u2.same 25 rfl).2
        refine w_dw_nu43 (w := s.2.1 25 (x1 - 1)) (c_dv_push56 hsL (d + 1) (by omega)) (fun _ K' hK' => ?_) u1 (by omega) (by omega) (by omega) (fun q => absurd q (by omega)) (fun _ t t1 t2 t3 => ?_)
        · refine c_dw_ur hsL (d + 1) (by omega) _ u K' u1 ⟨by omega, by rw [f22 u u2, R1]; omega, by omega⟩ ?_
          rw [show ((x1 : Int) - 1).toNat = x1 - 1 by omega, e25]
          exact hK'
        · obtain ⟨s1, s2, s3, s4, s5, s6, s7, s8⟩ := t3 trivial
          have ix : (u.1 56 6).toNat = (wd_rs (l.drop x1)).length := by
            unfold wd_rs
            rw [List.length_map, List.length_drop]
            omega
          rw [ix] at s3 s4 s5 s6 s7 s8
          have nf2 : dv_nf (u.1 11 6) S.2.2.2.2 S.2.2.2.2 u t := dv_nf_F _ t2 (by decide)
          have t29 : t.1 29 3 = 0 := by rw [(t2.same 29 rfl).1]; exact u5
          refine ⟨2000000 + (x1 - 1), by omega, Or.inl ⟨rfl, x1 - 1, ?_, by omega, ⟨t1, cx_F_step t2 rfl u2, by rw [(t2.same 55 rfl).1]; exact u3, by rw [(t2.same 55 rfl).1]; exact u4, t29⟩, fun j hj => by rw [(t2.same 63 rfl).2]; exact u6 j hj, ?_, ?_, rfl⟩⟩
          · rw [show ((x1 - 1 : Nat) : Int) - 1 = (x1 : Int) - 1 - 1 by omega]
          · rw [List.drop_eq_getElem_cons hlt, show x1 - 1 + 1 = x1 by omega]
            refine ⟨⟨by show (0 : Int) ≤ t.1 29 3; omega, Int.le_refl _⟩, ⟨?_, ?_⟩, ⟨s7, s8⟩, ?_⟩
            · show dv_at t S.2.2.2.2 l[x1 - 1] (t.2.1 57 (wd_rs (l.drop x1)).length)
              rw [s3]
              exact dv_at_fr (Int.le_refl _) nf2 hA
            · show dv_c t [] 0 (t.2.1 58 (wd_rs (l.drop x1)).length)
              rw [s4]
              rfl
            · have u7' : wd_ws u S.2.2.2.2 0 (wd_rs (l.drop x1)) := by
                rw [u5] at u7
                exact u7
              refine wd_ws_fr (Int.le_refl _) nf2 (fun i hi => by have hi' : (i : Int) < 0 := hi; omega) (fun i hi => ?_) u7'
              have hi' : i < (wd_rs (l.drop x1)).length := hi
              obtain ⟨o1, o2, _, _, o5, o6⟩ := s2 i (by omega)
              exact ⟨o1, o2, o5, o6⟩
          · rw [s1, u8]
            omega
    · obtain ⟨hGu, ⟨x1', x2⟩, yN, yP, yks, _⟩ := u1 trivial
      obtain ⟨z1, _⟩ := hGu trivial
      refine w_dw_nu73 (G := fun t => ∃ a' ws', wd_K tv tc n0 Qs th rk 0 (wz_al th l.length) t S PR tm a' [] ws' ∧ cx_F [(29, 32), (55, 64)] s t ∧ t.1 55 11 = -1 ∧ wd_ms t ws' < wd_ms u ws) (c_dv_pempty56 hsL (d + 1) (by omega)) (fun hne K' hK' => ?_) z1 (by omega) (fun h0 => ?_) (fun hne t ht => ?_)
      · cases ws with
        | nil =>
          exfalso
          exact hne x2
        | cons k ws => exact c_dw_ns hsL (d + 1) (by omega) S PR tm a k ws u K' u1 (fun t a' ws' c1 c2 c3 c4 => hK' t ⟨a', ws', c1, cx_F_step c2 rfl u2, c3.trans u3, c4⟩)
      · have ew : ws = [] := by
          cases ws with
          | nil => rfl
          | cons k ws =>
            rw [List.length_cons] at x2
            omega
        subst ew
        have ea : a = wz_al th l.length := (yP trivial).1
        rw [ea] at yN
        exact hK u z1 u2 u3 hGu yN
      · obtain ⟨a', ws', c1, c2, c3, c4⟩ := ht
        exact ⟨wd_ms t ws', c4, Or.inr ⟨rfl, x1 + 1, a', ws', by rw [show ((x1 + 1 : Nat) : Int) = (x1 : Int) + 1 by omega], c1, c2, c3, by omega, rfl⟩⟩
end
