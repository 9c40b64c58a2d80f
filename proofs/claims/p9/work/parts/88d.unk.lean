/-! ===== the desk puts a new unknown before its ARGs; what stands before an ARG ===== -/
/-- a row of variables in their long forms -/
def wk_rl : List rf_T → List Int → Int → List Int
  | A :: As, n :: ns, M => wk_cv A n M ++ wk_rl As ns M
  | _, _, _ => []
theorem w_k_pu {CALL : sx_Ca} {sL : Nat} {sx : Nat → Int32} {Q : Nat → sx_L → sx_S → Prop} {R : Int → sx_S → Prop} {s : sx_S} {a0 a1 a2 m nb : Int} {P1 : sx_S → Prop} {P2 : sx_S → sx_S → Prop} (p0 : 0 ≤ a0 ∧ a0 ≤ 2000) (pm : 0 ≤ m ∧ m < 32) (hH : ∀ K : Int → sx_S → Prop, K m s → CALL 92 [.inr (.inl 11), .inl a0] s K) (h1 : ∀ K : Int → sx_S → Prop, (∀ z t, P1 t → K z t) → CALL 135 [.inr (.inl 55), .inl 104] s K) (hI1 : ∀ t, P1 t → cx_I t ∧ t.2.1 63 m.toNat = nb) (rn : -2147483648 ≤ nb ∧ nb ≤ 2147483647) (h2 : ∀ t, P1 t → ∀ K : Int → sx_S → Prop, (∀ z t2, P2 t t2 → K z t2) → CALL 134 [.inr (.inl 55), .inl nb] t K) (hQ : ∀ t t2, P1 t → P2 t t2 → Q 46 [(0, .inr (.inl 55)), (1, .inl a0), (2, .inl a1), (3, .inl a2), (4, .inl m), (5, .inl 0)] t2) : sx_wp true sL sx eX10_putUnknown CALL [(46, [0, 1, 2, 3, 4, 5])] Q R 400 0 (sx_argsF 0 [.inr (.inl 55), .inl a0, .inl a1, .inl a2]) [] s := by
  repeat' (first | (with_reducible (rintro _ rfl)) | (with_reducible intro _) | (refine And.intro ?_ ?_) | (refine hH _ ?_) | (refine h1 _ (fun zz1 zt1 zp1 => ?_); obtain ⟨zi1, ze1⟩ := hI1 zt1 zp1; subst ze1) | (refine h2 zt1 zp1 _ (fun zz2 zt2 zp2 => ?_)) | (fail))
  all_goals (try dsimp only at *)
  all_goals (first | trivial | assumption | omega | (exfalso; omega) | (exact hQ _ _ zp1 zp2) | (subst_vars; first | assumption | omega | exact hQ _ _ zp1 zp2) | skip)
theorem w_k_pu46n {CALL : sx_Ca} {sL : Nat} {sx : Nat → Int32} {Q : Nat → sx_L → sx_S → Prop} {R : Int → sx_S → Prop} {s : sx_S} {a0 a1 a2 m x5 n : Int} (p5 : 0 ≤ x5 ∧ x5 ≤ 4) (pn : 0 ≤ n ∧ n ≤ 4) (hA : ∀ K : Int → sx_S → Prop, K n s → CALL 94 [.inr (.inl 11), .inl a0] s K) (p0 : 0 ≤ a0 ∧ a0 ≤ 2000) (hn : n ≤ x5) (hK : R 0 s) : sx_wp true sL sx eX10_putUnknown CALL [(46, [0, 1, 2, 3, 4, 5])] Q R 400 46 [(0, .inr (.inl 55)), (1, .inl a0), (2, .inl a1), (3, .inl a2), (4, .inl m), (5, .inl x5)] [] s := by
  repeat' (first | (with_reducible intro _) | (refine And.intro ?_ ?_) | (refine hA _ ?_) | (fail))
  all_goals (try dsimp only at *)
  all_goals (first | trivial | assumption | omega | (exfalso; omega) | skip)
theorem w_k_pu46y {CALL : sx_Ca} {sL : Nat} {sx : Nat → Int32} {Q : Nat → sx_L → sx_S → Prop} {R : Int → sx_S → Prop} {s : sx_S} {a0 a1 a2 m x5 n w g lv ty k : Int} {P1 : sx_S → Prop} (hI : cx_I s) (p5 : 0 ≤ x5 ∧ x5 < n) (pn : 0 ≤ n ∧ n ≤ 4) (hA : ∀ K : Int → sx_S → Prop, K n s → CALL 94 [.inr (.inl 11), .inl a0] s K) (p0 : 0 ≤ a0 ∧ a0 ≤ 2000) (p1 : -2147483648 ≤ a1 ∧ a1 ≤ 2147483647) (p2 : -2147483648 ≤ a2 ∧ a2 ≤ 2147483647) (pm : 0 ≤ m ∧ m < 32) (ek : s.2.1 64 (m * 4 + x5).toNat = k) (rk : -2147483648 ≤ k ∧ k ≤ 2147483647) (hG : ∀ K : Int → sx_S → Prop, K w s → CALL 95 [.inr (.inl 11), .inl a0, .inl k] s K) (rw' : -2147483648 ≤ w ∧ w ≤ 2147483647) (hH : ∀ K : Int → sx_S → Prop, K g s → CALL 92 [.inr (.inl 11), .inl w] s K) (rg : -2147483648 ≤ g ∧ g ≤ 2147483647) (hO : ∀ K : Int → sx_S → Prop, K lv s → CALL 47 [.inr (.inl 29), .inl a1, .inl g] s K) (rl : -2147483648 ≤ lv ∧ lv ≤ 2147483647) (hT : ∀ K : Int → sx_S → Prop, K ty s → CALL 87 [.inr (.inl 11), .inl g] s K) (rt : -2147483648 ≤ ty ∧ ty ≤ 2147483647) (hV : ∀ K : Int → sx_S → Prop, (∀ z t, P1 t → K z t) → CALL 132 [.inr (.inl 55), .inl lv, .inl ty, .inl a2, .inl 0] s K) (hQ : ∀ t, P1 t → Q 46 [(0, .inr (.inl 55)), (1, .inl a0), (2, .inl a1), (3, .inl a2), (4, .inl m), (5, .inl (x5 + 1))] t) : sx_wp true sL sx eX10_putUnknown CALL [(46, [0, 1, 2, 3, 4, 5])] Q R 400 46 [(0, .inr (.inl 55)), (1, .inl a0), (2, .inl a1), (3, .inl a2), (4, .inl m), (5, .inl x5)] [] s := by
  have zz4 : sx_w true (m * 4) = m * 4 := px_wid (by omega) (by omega)
  have zz5 : sx_w true (sx_w true (m * 4) + x5) = m * 4 + x5 := by rw [zz4]; exact px_wid (by omega) (by omega)
  have zz6 : sx_w true (x5 + 1) = x5 + 1 := px_wid (by omega) (by omega)
  rw [← zz6] at hQ
  rw [← zz5] at ek
  subst ek
  repeat' (first | (with_reducible (rintro _ rfl)) | (with_reducible intro _) | (refine And.intro ?_ ?_) | (refine hA _ ?_) | (refine hG _ ?_) | (refine hH _ ?_) | (refine hO _ ?_) | (refine hT _ ?_) | (refine hV _ (fun zz1 zt1 zp1 => ?_)) | (fail))
  all_goals (try dsimp only at *)
  all_goals (first | trivial | assumption | omega | (exfalso; omega) | (exact hQ _ zp1) | skip)
/-- what is put of a call of an open unknown -/
def wk_U (s : sx_S) (F : rf_N) (c : List (Int × Int)) (m : Int) (i : Nat) (Ts : List rf_T) (Ls : List Int) : Prop := True → s.2.1 63 m.toNat = (i : Int) ∧ (Ts.length = rf_len F ∧ Ls.length = rf_len F) ∧ ∀ p : Nat, p < rf_len F → ∃ (k : Nat) (A : rf_T) (l : Int), s.2.1 64 (m * 4 + (p : Int)).toNat = (k : Int) ∧ k < rf_len F ∧ Ts[p]? = some A ∧ Ls[p]? = some l ∧ l = dv_lk c ((dz_hs F).getD k (-1)) ∧ (0 ≤ l ∧ l ≤ 99990000) ∧ (0 ≤ (dz_hs F).getD k (-1) ∧ (dz_hs F).getD k (-1) < s.1 11 8) ∧ wk_ty s A (s.2.1 17 ((dz_hs F).getD k (-1)).toNat) ∧ rf_at A ≤ 5
theorem wk_U_c {s t : sx_S} {F : rf_N} {c : List (Int × Int)} {m : Int} {i : Nat} {Ts : List rf_T} {Ls : List Int} (hF : cx_F [(55, 55), (65, 65)] s t) (h : wk_U s F c m i Ts Ls) : wk_U t F c m i Ts Ls := fun _ => by
  obtain ⟨h1, h2, h3⟩ := h trivial
  refine ⟨by rw [(hF.same 63 rfl).2]; exact h1, h2, fun p hp => ?_⟩
  obtain ⟨k, A, l, a1, a2, a3, a4, a5, a6, a7, a8, a9⟩ := h3 p hp
  exact ⟨k, A, l, by rw [(hF.same 64 rfl).2]; exact a1, a2, a3, a4, a5, a6, by rw [(hF.same 11 rfl).1]; exact a7, wk_ty_c (by rw [(hF.same 8 rfl).1]) (hF.same 9 rfl).2 (hF.same 10 rfl).2 (by rw [(hF.same 17 rfl).2]; exact a8), a9⟩
theorem wk_rl_len : ∀ (Ts : List rf_T) (Ls : List Int) (M : Int), (∀ A ∈ Ts, rf_at A ≤ 5) → (wk_rl Ts Ls M).length ≤ 140 * Ts.length
  | [], _, _, _ => by
    unfold wk_rl
    exact Nat.le_refl _
  | A :: As, [], M, _ => by
    show 0 ≤ _
    omega
  | A :: As, n :: ns, M, h => by
    have h1 := (wk_len A n M).1
    have h2 := wk_rl_len As ns M (fun B hB => h B (List.mem_cons_of_mem _ hB))
    have h3 := h A List.mem_cons_self
    show (wk_cv A n M ++ wk_rl As ns M).length ≤ _
    rw [List.length_append, List.length_cons]
    omega
theorem wk_rl_app : ∀ (p : Nat) (Ts : List rf_T) (Ls : List Int) (M : Int) (A : rf_T) (l : Int), Ts[p]? = some A → Ls[p]? = some l → wk_rl (Ts.take (p + 1)) (Ls.take (p + 1)) M = wk_rl (Ts.take p) (Ls.take p) M ++ wk_cv A l M
  | 0, T :: Ts, n :: ns, M, A, l, h1, h2 => by
    have e1 : T = A := by simpa using h1
    have e2 : n = l := by simpa using h2
    rw [e1, e2]
    show wk_cv A l M ++ [] = [] ++ wk_cv A l M
    rw [List.append_nil, List.nil_append]
  | p + 1, T :: Ts, n :: ns, M, A, l, h1, h2 => by
    have e := wk_rl_app p Ts ns M A l (by simpa using h1) (by simpa using h2)
    show wk_cv T n M ++ wk_rl (Ts.take (p + 1)) (ns.take (p + 1)) M = (wk_cv T n M ++ wk_rl (Ts.take p) (ns.take p) M) ++ wk_cv A l M
    rw [e, List.append_assoc]
  | _, [], _, _, _, _, h, _ => by simp at h
  | _, _ :: _, [], _, _, _, _, h => by simp at h
theorem c_k_putU {sL : Nat} {sx : Nat → Int32} (hsL : sL ≤ 3072) (d : Nat) (hd : 16 ≤ d) : ∀ (a0 a1 a2 hi m : Int) (F : rf_N) (c : List (Int × Int)) (i : Nat) (Ts : List rf_T) (Ls : List Int) (s : sx_S) (K : Int → sx_S → Prop), cx_I s → (0 ≤ a0 ∧ a0 < s.1 11 6) → (s.2.1 13 a0.toNat = m ∧ 0 ≤ m ∧ m < 32) → dz_nd s F (s.2.1 14 a0.toNat) → s.2.1 16 a0.toNat = (rf_len F : Int) → rf_len F ≤ 4 → dv_c s c hi a1 → hi ≤ s.1 29 3 → (0 ≤ a2 ∧ a2 ≤ 99980000) → i ≤ 1000 → wk_U s F c m i Ts Ls → s.1 55 10 ≤ 900000000 → (∀ z t, wk_PT s t (104 :: (wb_dg (i : Int) ++ wk_rl Ts Ls a2)) → K z t) → sx_C sL sx d 131 [.inr (.inl 55), .inl a0, .inl a1, .inl a2] s K := by
  intro a0 a1 a2 hi m F c i Ts Ls s K hI p0 hm hF hA h4 hc hhi p2 hi0 hU h10 hK
  obtain ⟨em, m0, m1⟩ := hm
  have f6 := hI.fld 11 6 (by decide) rfl
  have f8 := hI.fld 11 8 (by decide) rfl
  have r1 := dv_ch_rng hc
  have r29 := hI.fld 29 3 (by decide) rfl
  obtain ⟨u1, ⟨u2, u3⟩, u4⟩ := hU trivial
  have dl := wb_dg_len (i : Int)
  have h5 : ∀ A ∈ Ts, rf_at A ≤ 5 := fun A hA' => by
    obtain ⟨p, hp, e⟩ := List.getElem_of_mem hA'
    obtain ⟨k, A', l, _, _, a3, _, _, _, _, _, a9⟩ := u4 p (by omega)
    rw [List.getElem?_eq_getElem hp, e] at a3
    rw [Option.some.inj a3]
    exact a9
  have hrl := wk_rl_len Ts Ls a2 h5
  obtain ⟨d, rfl⟩ : ∃ e, d = e + 2 := ⟨d - 2, by omega⟩
  refine sx_methL (wr := true) (n := 400) (n' := 400) (stop := [(46, [0, 1, 2, 3, 4, 5])]) (fun n pc ls u => pc = 46 ∧ ∃ x5 : Nat, ls = [(0, .inr (.inl 55)), (1, .inl a0), (2, .inl a1), (3, .inl a2), (4, .inl m), (5, .inl (x5 : Int))] ∧ x5 ≤ rf_len F ∧ wk_PT s u (104 :: (wb_dg (i : Int) ++ wk_rl (Ts.take x5) (Ls.take x5) a2)) ∧ n = rf_len F - x5) hsL (e := eX10_putUnknown) rfl ?_ ?_
  · refine w_k_pu (nb := (i : Int)) (P1 := fun t => wk_PT s t [104]) (P2 := fun t t2 => wk_PT t t2 (wb_dg (i : Int))) (by omega) ⟨m0, m1⟩ (fun K' hK' => ?_) (fun K' hK' => c_k_put hsL (d + 1) (by omega) 104 s K' hI (by omega) (by omega) hK') (fun t ht => ⟨ht.1, by rw [(ht.2.1.same 63 rfl).2]; exact u1⟩) (by omega) (fun t ht K' hK' => ?_) (fun t t2 ht ht2 => ⟨_, rfl, 0, rfl, by omega, ?_, rfl⟩)
    · refine c_dz_head hsL (d + 1) (by omega) a0 s K' hI (by omega) (fun z z1 _ => ?_)
      rw [z1 p0.1 p0.2, em]
      exact hK'
    · have e1 : t.1 55 10 = s.1 55 10 + 1 := ht.2.2.2.1
      exact c_k_putN hsL (d + 1) (by omega) _ t K' ht.1 (by omega) (by omega) hK'
    · have e0 : wk_rl (Ts.take 0) (Ls.take 0) a2 = [] := by
        rw [List.take_zero]
        unfold wk_rl
        rfl
      rw [e0, List.append_nil]
      exact wk_PT_t ht ht2
  · rintro n pc ls u ⟨rfl, x5, rfl, h5', hu, rfl⟩
    have F' := hu.2.1
    have g11 : u.1 11 = s.1 11 := (F'.same 11 rfl).1
    have hAu : ∀ K' : Int → sx_S → Prop, K' (rf_len F : Int) u → sx_C sL sx (d + 1) 94 [.inr (.inl 11), .inl a0] u K' := fun K' hK' => by
      refine c_dz_arity hsL (d + 1) (by omega) a0 u K' hu.1 (by omega) (fun z z1 _ => ?_)
      rw [z1 p0.1 (by rw [g11]; exact p0.2), (F'.same 16 rfl).2, hA]
      exact hK'
    by_cases hx : x5 < rf_len F
    · obtain ⟨k, A, l, a1', a2', a3', a4', a5', a6', a7', a8', a9'⟩ := (wk_U_c F' hU) trivial |>.2.2 x5 hx
      have nf : dv_nf (s.1 11 6) (fun _ => []) (fun _ => []) s u := dv_nf_F _ F' (by decide)
      have hFu : dz_nd u F (u.2.1 14 a0.toNat) := by
        rw [(F'.same 14 rfl).2]
        exact dz_nd_fr hF (nf trivial).1 (fun j hj => rf_nd_lt hF j hj)
      have hcu : dv_c u c hi a1 := dv_ch_fr (fun j _ => by rw [(F'.same 30 rfl).2, (F'.same 31 rfl).2, (F'.same 32 rfl).2]; exact ⟨rfl, rfl, rfl⟩) hc
      have g6 := hu.1.fld 11 6 (by decide) rfl
      have g8 := hu.1.fld 11 8 (by decide) rfl
      obtain ⟨w, hw⟩ := dv_drx k hFu
      obtain ⟨w1, w2⟩ := dv_nth a2' hw
      have hll := (wk_len A l a2).1
      have hul : (wk_rl (Ts.take x5) (Ls.take x5) a2).length ≤ 140 * (Ts.take x5).length := wk_rl_len _ _ _ (fun B hB => h5 B (List.mem_of_mem_take hB))
      rw [List.length_take] at hul
      have hu10 := hu.2.2.2.1
      rw [List.length_cons, List.length_append] at hu10
      refine w_k_pu46y (n := (rf_len F : Int)) (w := w) (g := (dz_hs F).getD k (-1)) (lv := l) (ty := u.2.1 17 ((dz_hs F).getD k (-1)).toNat) (k := (k : Int)) (P1 := fun t => wk_PT u t (wk_cv A l a2)) hu.1 (by omega) (by omega) hAu (by omega) (by omega) (by omega) ⟨m0, m1⟩ a1' (by omega) (fun K' hK' => ?_) (by omega) (fun K' hK' => ?_) (by omega) (fun K' hK' => ?_) (by omega) (fun K' hK' => ?_) (wk_ty_r hu.1 a8') (fun K' hK' => c_k_putV hsL 5 (d + 1) (by omega) A l _ a2 0 u K' hu.1 a8' a9' (by omega) a6' (by omega) (by omega) hK') (fun t ht => ?_)
      · refine c_dz_arg hsL (d + 1) (by omega) a0 k F u K' hu.1 (by rw [g11]; exact p0) (by omega) hFu (fun z _ q => ?_)
        rw [Int.toNat_natCast] at q
        rw [dv_nd1 q hw]
        exact hK'
      · refine c_dz_head hsL (d + 1) (by omega) w u K' hu.1 (by omega) (fun z z1 _ => ?_)
        rw [z1 w1.1 w1.2, w2]
        exact hK'
      · rw [a5'] at hK'
        exact c_dv_of hsL (d + 1) (by omega) _ _ _ c u K' hu.1 (by omega) hcu (by rw [(F'.same 29 rfl).1]; exact hhi) hK'
      · refine c_dz_vt hsL (d + 1) (by omega) _ u K' hu.1 (by omega) (fun z z1 => ?_)
        rw [z1 a7'.1 a7'.2]
        exact hK'
      · refine ⟨rf_len F - (x5 + 1), by omega, rfl, x5 + 1, by rw [show ((x5 + 1 : Nat) : Int) = (x5 : Int) + 1 by omega], by omega, ?_, rfl⟩
        rw [wk_rl_app x5 Ts Ls a2 A l a3' a4', ← List.append_assoc, ← List.cons_append]
        exact wk_PT_t hu ht
    · have hx' : x5 = rf_len F := by omega
      refine w_k_pu46n (n := (rf_len F : Int)) (by omega) (by omega) hAu (by omega) (by omega) (hK 0 u ?_)
      rw [List.take_of_length_le (by omega), List.take_of_length_le (by omega)] at hu
      exact hu
