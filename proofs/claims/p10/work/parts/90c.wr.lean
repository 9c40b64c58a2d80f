/-! ===== the desk: write, all of it ===== -/
theorem w_k_wrN {CALL : sx_Ca} {sL : Nat} {sx : Nat → Int32} {Q : Nat → sx_L → sx_S → Prop} {R : Int → sx_S → Prop} {s : sx_S} {a0 : Int} (hI : cx_I s) (p0 : 0 ≤ a0 ∧ a0 ≤ 2000) (e0 : s.1 55 11 = a0) (hQ : Q 54 [(0, .inr (.inl 55)), (2, .inl 0)] s) : sx_wp true sL sx eX10_write CALL [(54, [0, 2])] Q R 400 0 (sx_argsF 0 [.inr (.inl 55), .inl a0]) [] s := by
  repeat' (first | (with_reducible (rintro _ rfl)) | (with_reducible intro _) | (refine And.intro ?_ ?_) | (fail))
  all_goals (try dsimp only at *)
  all_goals (first | trivial | assumption | omega | (exfalso; omega) | skip)
theorem w_k_wrM {CALL : sx_Ca} {sL : Nat} {sx : Nat → Int32} {Q : Nat → sx_L → sx_S → Prop} {R : Int → sx_S → Prop} {s : sx_S} {a0 : Int} (hI : cx_I s) (p0 : -2147483648 ≤ a0 ∧ a0 < 0) (hK : R (-1) s) : sx_wp true sL sx eX10_write CALL [(54, [0, 2])] Q R 400 0 (sx_argsF 0 [.inr (.inl 55), .inl a0]) [] s := by
  repeat' (first | (with_reducible (rintro _ rfl)) | (with_reducible intro _) | (refine And.intro ?_ ?_) | (fail))
  all_goals (try dsimp only at *)
  all_goals (first | trivial | assumption | omega | (exfalso; omega) | skip)
theorem w_k_wrY {CALL : sx_Ca} {sL : Nat} {sx : Nat → Int32} {Q : Nat → sx_L → sx_S → Prop} {R : Int → sx_S → Prop} {s : sx_S} {a0 : Int} {P1 P2 P3 : sx_S → Prop} (hI : cx_I s) (p0 : 0 ≤ a0 ∧ a0 ≤ 2000) (e0 : s.1 55 11 ≠ a0) (h_rel : ∀ K : Int → sx_S → Prop, (∀ z t, P1 t → K z t) → CALL 45 [.inr (.inl 29), .inl 0] (sx_uf (sx_uf s.1 55 11 a0) 55 10 0, s.2) K) (h_clr : ∀ t, P1 t → ∀ K : Int → sx_S → Prop, (∀ z u, P2 u → K z u) → CALL 58 [.inr (.inl 56)] t K) (h_pu : ∀ t, P2 t → ∀ K : Int → sx_S → Prop, (∀ z u, P3 u → K z u) → CALL 61 [.inr (.inl 56), .inl a0, .inl (-1), .inl 0, .inl (-1), .inl 0, .inl 0] t K) (hQ : ∀ t, P3 t → Q 54 [(0, .inr (.inl 55)), (2, .inl 0)] t) : sx_wp true sL sx eX10_write CALL [(54, [0, 2])] Q R 400 0 (sx_argsF 0 [.inr (.inl 55), .inl a0]) [] s := by
  repeat' (first | (with_reducible (rintro _ rfl)) | (with_reducible intro _) | (refine And.intro ?_ ?_) | (refine h_rel _ (fun z1 t1 zz1 => ?_)) | (refine h_clr t1 zz1 _ (fun z2 t2 zz2 => ?_)) | (refine h_pu t2 zz2 _ (fun z3 t3 zz3 => ?_)) | (fail))
  all_goals (try dsimp only at *)
  all_goals (first | trivial | assumption | omega | (exfalso; omega) | (exact hQ t3 zz3) | skip)
theorem w_k_wr54 {CALL : sx_Ca} {sL : Nat} {sx : Nat → Int32} {Q : Nat → sx_L → sx_S → Prop} {R : Int → sx_S → Prop} (h_emp : ∀ (s : sx_S) (K : Int → sx_S → Prop), cx_I s → (∀ z : Int, (0 ≤ z ∧ z ≤ 1) → (s.1 56 6 = 0 → z = 1) → (s.1 56 6 ≠ 0 → z = 0) → K z s) → CALL 59 [.inr (.inl 56)] s K) {s : sx_S} {x2 : Int} {G : sx_S → Prop} (h_ws : s.1 55 10 ≤ 4000 → s.1 56 6 ≠ 0 → ∀ K : Int → sx_S → Prop, (∀ t, G t → K 0 t) → CALL 128 [.inr (.inl 55)] s K) (hI : cx_I s) (q2 : 0 ≤ x2 ∧ x2 < 1000000) (hK1 : 4000 < s.1 55 10 → R (-1) s) (hK2 : s.1 55 10 ≤ 4000 → s.1 56 6 = 0 → R (s.1 55 10) s) (hQ : s.1 55 10 ≤ 4000 → s.1 56 6 ≠ 0 → ∀ t, G t → Q 54 [(0, .inr (.inl 55)), (2, .inl (x2 + 1))] t) : sx_wp true sL sx eX10_write CALL [(54, [0, 2])] Q R 400 54 [(0, .inr (.inl 55)), (2, .inl x2)] [] s := by
  have zzy : sx_w true (x2 + 1) = x2 + 1 := px_wid (by omega) (by omega)
  repeat' (first | (with_reducible (rintro _ rfl)) | (with_reducible intro _) | (refine And.intro ?_ ?_) | (refine h_emp s _ hI (fun v v0 v1 v2 => ?_)) | (refine h_ws (by omega) (by omega) _ (fun t zzt => ?_)) | (fail))
  all_goals (try dsimp only at *)
  all_goals (first | trivial | assumption | omega | (exfalso; omega) | (exact hK1 (by omega)) | (exact hK2 (by omega) (by omega)) | (have zz9 := hQ (by omega) (by omega) _ zzt; rw [← zzy] at zz9; exact zz9) | skip)
/-- what is written of a root -/
def wk_out (E : we_E (List Int)) (th : Int → rf_N) (S : vx_S) (a : List (Int × List Int)) (A : rf_N) : List Int := ((we_W E (wd_v th S.2.2.2.2 (A, dv_lk [], 0))).1 0 (a, [])).2
/-- what is on paper -/
def wk_ink (E : we_E (List Int)) (th : Int → rf_N) (S : vx_S) (a : List (Int × List Int)) (u : sx_S) : Prop := True → u.1 55 11 < 0 ∨ ∃ A, dv_at u S.2.2.2.2 A (u.1 55 11) ∧ ((u.1 56 6 = 0 ∧ wb_Dp u (wk_out E th S a A) ∧ (wk_out E th S a A).length ≤ 4000) ∨ (4000 < u.1 55 10 ∧ 4000 < (wk_out E th S a A).length))
theorem dv_at_fun {s : sx_S} {AR : Nat → List Int} {A B : rf_N} {z : Int} (h1 : dv_at s AR A z) (h2 : dv_at s AR B z) : A = B := by
  obtain ⟨j, k, h, F, e1, ⟨a1, _⟩, ⟨a2, a3⟩, a4, _⟩ := h1
  obtain ⟨j', k', h', F', e2, ⟨b1, _⟩, ⟨b2, b3⟩, b4, _⟩ := h2
  have ej : j' = j := by omega
  subst ej
  have eF : F = F' := rf_nd_inj a4 b4
  rw [e1, e2, eF, ← a2, ← a3, ← b2, ← b3]
section
variable {nm : Int → List Int} {ht : Int → List rf_T} {th : Int → rf_N} {AR : Nat → List Int}
theorem wk_by_le {n : Nat} (q : wk_I) (w : we_A (List Int)) (h : n ≤ w.2.length) : n ≤ (wk_by (wk_E nm ht) th AR q w).2.length := by
  have hp : ∀ (c : Int) (o : List Int), n ≤ o.length → n ≤ (wk_pb c o).length := fun c o h => by
    show n ≤ (o ++ [c]).length
    rw [List.length_append]
    omega
  have hb : ∀ (l : List Int) (w : we_A (List Int)), n ≤ w.2.length → n ≤ (we_b (wk_E nm ht) l w).2.length := fun l w h => by
    have e : we_b (wk_E nm ht) l w = (w.1, w.2 ++ l) := wk_bs l w
    rw [e]
    show n ≤ (w.2 ++ l).length
    rw [List.length_append]
    omega
  have hW : ∀ (v : rf_N) (dp : Int) (w : we_A (List Int)), n ≤ w.2.length → n ≤ ((we_W (wk_E nm ht) v).1 dp w).2.length := fun v dp w h => (we_sat (P := fun o => n ≤ o.length) hp (fun h' xs dp w hw => we_hf_sat (P := fun o => n ≤ o.length) hp ht h' xs dp w hw) dp w h).1
  unfold wk_by
  by_cases c2 : q.2 = 2
  · rw [if_pos c2]
    exact hb _ _ h
  · rw [if_neg c2]
    by_cases c1 : q.2 = 1
    · rw [if_pos c1]
      unfold we_gv we_g
      by_cases c : (wz_q (wd_v th AR (wd_it q.1))).1 = 0 ∨ rf_len (wz_F (wd_v th AR (wd_it q.1))) ≠ 0
      · rw [if_pos c]
        exact hb [41] _ (hW _ _ _ (hb [40] _ (hb [32] _ h)))
      · rw [if_neg c]
        exact hW _ _ _ (hb [32] _ h)
    · rw [if_neg c1]
      exact hW _ _ _ h
theorem wk_al_le {n : Nat} : ∀ (ws : List wk_I) (w : we_A (List Int)), n ≤ w.2.length → n ≤ (wk_al (wk_E nm ht) th AR ws w).2.length
  | [], _, h => h
  | q :: ws, w, h => wk_al_le ws _ (wk_by_le q w h)
end
theorem c_k_write {tv tc : Int → rf_T} {n0 : Int} {Qs : (Int → rf_N) → Prop} {th : Int → rf_N} {rk : Int → Nat} {nm : Int → List Int} {sL : Nat} {sx : Nat → Int32} (hsL : sL ≤ 3072) (d : Nat) (hd : 22 ≤ d) : ∀ (S : vx_S) (PR : Int → List (Int × Int)) (tm : Int → Int → rf_T) (a : List (Int × List Int)) (A : rf_N) (z : Int) (s : sx_S) (K : Int → sx_S → Prop), wk_X tv tc n0 Qs th rk nm s S PR tm a → dv_at s S.2.2.2.2 A z → wk_T tv tc tm S th (s.1 19 2) 0 a 0 A [] 0 0 → wk_ink (wk_E nm (wk_ht tm)) th S a s → (∀ zz t, cx_I t → wk_fw s t → wk_ink (wk_E nm (wk_ht tm)) th S a t → (((wk_out (wk_E nm (wk_ht tm)) th S a A).length ≤ 4000 ∧ zz = ((wk_out (wk_E nm (wk_ht tm)) th S a A).length : Int) ∧ wb_Dp t (wk_out (wk_E nm (wk_ht tm)) th S a A)) ∨ (4000 < (wk_out (wk_E nm (wk_ht tm)) th S a A).length ∧ zz = -1)) → K zz t) → sx_C sL sx d 123 [.inr (.inl 55), .inl z] s K := by
  intro S PR tm a A z s K hX hA hT hink hK
  obtain ⟨hG, _⟩ := hX trivial
  obtain ⟨g1, _⟩ := hG trivial
  have rz := dv_at_z hA
  have r11 := g1.fld 11 6 (by decide) rfl
  have hZ : ∃ Z, Z = (we_W (wk_E nm (wk_ht tm)) (wd_v th S.2.2.2.2 (A, dv_lk [], 0))).1 0 (a, []) := ⟨_, rfl⟩
  obtain ⟨Z, hZ⟩ := hZ
  have hout : wk_out (wk_E nm (wk_ht tm)) th S a A = Z.2 := by
    rw [hZ]
    rfl
  rw [hout] at hK
  obtain ⟨d, rfl⟩ : ∃ e, d = e + 2 := ⟨d - 2, by omega⟩
  refine sx_methL (wr := true) (n := 400) (n' := 400) (stop := [(54, [0, 2])]) (fun n pc ls u => pc = 54 ∧ ∃ x2 : Nat, ls = [(0, .inr (.inl 55)), (2, .inl (x2 : Int))] ∧ cx_I u ∧ wk_fw s u ∧ u.1 55 11 = z ∧ ((∃ (ws : List wk_I) (o : List Int), (wk_ws u S.2.2.2.2 (u.1 29 3) ws ∧ u.1 56 6 = (ws.length : Int)) ∧ wk_en tv tc tm S th (s.1 19 2) 0 a ws ∧ ((ws = [(((A, []), 0, 0), 0)] ∧ o = [] ∧ x2 = 0) ∨ ((∀ p ∈ ws, p.2 = 1 ∨ p.2 = 2) ∧ x2 ≤ o.length + 1)) ∧ wb_Dp u o ∧ (wk_al (wk_E nm (wk_ht tm)) th S.2.2.2.2 ws (a, o)).2 = Z.2 ∧ x2 ≤ 4002) ∨ (4000 < u.1 55 10 ∧ 4000 < Z.2.length ∧ x2 = 0)) ∧ n = 10000 - x2) hsL (e := eX10_write) rfl ?_ ?_
  · by_cases e0 : s.1 55 11 = z
    · refine w_k_wrN g1 (by omega) e0 ?_
      refine ⟨_, rfl, 0, rfl, g1, wk_fw_of (wk_fr_refl s), e0, ?_, rfl⟩
      rcases hink trivial with q | ⟨A', a1, a2⟩
      · omega
      · rw [e0] at a1
        have eA := dv_at_fun a1 hA
        subst eA
        rw [hout] at a2
        rcases a2 with ⟨a2, a3, a4⟩ | ⟨a2, a3⟩
        · refine Or.inl ⟨[], Z.2, ⟨trivial, by rw [a2]; rfl⟩, trivial, Or.inr ⟨fun _ h => absurd h List.not_mem_nil, Nat.zero_le _⟩, a3, rfl, by omega⟩
        · exact Or.inr ⟨a2, a3, rfl⟩
    · have hI1 : cx_I (sx_uf (sx_uf s.1 55 11 z) 55 10 0, s.2) := cx_I_uf rfl rfl (cx_I_uf rfl rfl g1 (by omega) (by omega)) (by decide) (by decide)
      refine w_k_wrY (P1 := fun t => cx_I t ∧ cx_F [(29, 29)] (sx_uf (sx_uf s.1 55 11 z) 55 10 0, s.2) t ∧ t.1 29 3 = 0) (P2 := fun t => cx_I t ∧ cx_F [(29, 29), (56, 56)] (sx_uf (sx_uf s.1 55 11 z) 55 10 0, s.2) t ∧ t.1 29 3 = 0 ∧ t.1 56 6 = 0) (P3 := fun t => ∃ v, (cx_I v ∧ cx_F [(29, 29), (56, 56)] (sx_uf (sx_uf s.1 55 11 z) 55 10 0, s.2) v ∧ v.1 29 3 = 0 ∧ v.1 56 6 = 0) ∧ cx_I t ∧ cx_F [(56, 62)] v t ∧ dv_pu 56 (z, -1, 0, -1, 0, 0) v t) g1 (by omega) e0 (fun K' hK' => c_dv_rel hsL (d + 1) (by omega) 0 _ K' hI1 (by omega) (fun zz t t1 t2 t3 => hK' zz t ⟨t1, t2, t3 (Int.le_refl _) (hI1.fld 29 3 (by decide) rfl).1⟩)) (fun t ht K' hK' => c_dv_pclear56 hsL (d + 1) (by omega) t K' ht.1 (fun zz v t1 t2 t3 => hK' zz v ⟨t1, cx_F_step t2 rfl (cx_F_step ht.2.1 rfl (cx_F_refl _ _)), by rw [(t2.same 29 rfl).1]; exact ht.2.2, t3⟩)) (fun t ht K' hK' => c_dv_pair56 hsL (d + 1) (by omega) _ _ _ _ _ _ t K' ht.1 (by omega) (by omega) (by omega) (by omega) (by omega) (by omega) (by omega) (fun zz v t1 t2 t3 => hK' zz v ⟨t, ht, t1, t2, t3⟩)) (fun t ht => ?_)
      obtain ⟨v, ⟨v1, v2, v3, v4⟩, t1, t2, t3⟩ := ht
      have nf1 : dv_nf (s.1 11 6) S.2.2.2.2 S.2.2.2.2 s v := fun _ => ⟨fun _ => ⟨by rw [(v2.same 11 rfl).1]; exact Int.le_refl _, fun i _ => by
        rw [(v2.same 12 rfl).2, (v2.same 13 rfl).2, (v2.same 14 rfl).2, (v2.same 15 rfl).2, (v2.same 16 rfl).2]
        exact ⟨rfl, rfl, rfl, rfl, rfl⟩⟩, fun _ _ => rfl⟩
      have atv : dv_at v S.2.2.2.2 A z := dv_at_fr (Int.le_refl _) nf1 hA
      have hpu := wk_ws_pu (A := A) (c := []) (r := []) t2 t3 (by rw [v4]; rfl) (Int.le_refl _) trivial (fun _ => ⟨atv, rfl⟩)
      have e29 : t.1 29 3 = 0 := by rw [(t2.same 29 rfl).1]; exact v3
      have e55 : t.1 55 = sx_uf (sx_uf s.1 55 11 z) 55 10 0 55 := by rw [(t2.same 55 rfl).1, (v2.same 55 rfl).1]
      have e5510 : t.1 55 10 = 0 := by
        rw [e55]
        exact px_us _ _ _ _
      have e5511 : t.1 55 11 = z := by
        rw [e55, sx_uf_if, if_neg (by decide)]
        exact px_us _ _ _ _
      have h33 : t.1 33 = s.1 33 := by
        rw [(t2.same 33 rfl).1, (v2.same 33 rfl).1]
        funext k
        show sx_uf (sx_uf s.1 55 11 z) 55 10 0 33 k = s.1 33 k
        rw [sx_uf_if, if_neg (by omega), sx_uf_if, if_neg (by omega)]
      have hF0 : cx_F [(55, 55)] s (sx_uf (sx_uf s.1 55 11 z) 55 10 0, s.2) := cx_F_uf rfl (cx_F_uf rfl (cx_F_refl _ _))
      refine ⟨_, rfl, 0, rfl, t1, fun _ => ⟨cx_F_step t2 rfl (cx_F_step v2 rfl (cx_F_step hF0 rfl (cx_F_refl _ _))), fun k _ _ => by rw [h33], fun k k10 k11 => ?_⟩, e5511, Or.inl ⟨[(((A, []), 0, 0), 0)], [], ⟨by rw [e29]; exact hpu.1, hpu.2⟩, ⟨fun _ => hT, trivial⟩, Or.inl ⟨rfl, rfl, rfl⟩, ⟨by rw [e5510]; rfl, fun i hi => absurd hi (Nat.not_lt_zero _)⟩, ?_, by omega⟩, rfl⟩
      · rw [e55, sx_uf_if, if_neg (by omega), sx_uf_if, if_neg (by omega)]
      · rw [hZ]
        show (wk_by (wk_E nm (wk_ht tm)) th S.2.2.2.2 (((A, []), 0, 0), 0) (a, [])).2 = _
        unfold wk_by
        rw [if_neg (show ¬ (0 : Int) = 2 by decide), if_neg (show ¬ (0 : Int) = 1 by decide)]
        rfl
  · rintro n pc ls u ⟨rfl, x2, rfl, hIu, hfw, h11, hc, rfl⟩
    have atu : dv_at u S.2.2.2.2 A z := dv_at_fr (Int.le_refl _) (dv_nf_F _ (hfw trivial).1 (by decide)) hA
    rcases hc with ⟨ws, o, ⟨w1, w2⟩, w3, w4, w5, w6, w7⟩ | ⟨c1, c2, c3⟩
    · have h10 := w5.1
      have hlen : o.length ≤ Z.2.length := by
        rw [← w6]
        exact wk_al_le ws (a, o) (Nat.le_refl _)
      refine w_k_wr54 (G := fun t => ∃ (ws' : List wk_I) (o' : List Int), cx_I t ∧ wk_fr u t ∧ (wk_ws t S.2.2.2.2 (t.1 29 3) ws' ∧ t.1 56 6 = (ws'.length : Int)) ∧ wk_en tv tc tm S th (s.1 19 2) 0 a ws' ∧ (∀ p ∈ ws', p.2 = 1 ∨ p.2 = 2) ∧ wb_Dp t o' ∧ x2 + 1 ≤ o'.length + 1 ∧ (wk_al (wk_E nm (wk_ht tm)) th S.2.2.2.2 ws' (a, o')).2 = Z.2) (c_dv_pempty56 hsL (d + 1) (by omega)) (fun q1 q2 K' hK' => ?_) hIu (by omega) (fun q => hK (-1) u hIu hfw (fun _ => Or.inr ⟨A, by rw [h11]; exact atu, Or.inr ⟨q, by rw [hout]; omega⟩⟩) (Or.inr ⟨by omega, rfl⟩)) (fun q1 q2 => ?_) (fun q1 q2 t ht => ?_)
      · have hXu := wk_X_fw hX hIu hfw
        have e19 : u.1 19 2 = s.1 19 2 := by rw [((hfw trivial).1.same 19 rfl).1]
        cases ws with
        | nil =>
          exfalso
          rw [w2] at q2
          exact q2 rfl
        | cons k ws =>
          refine c_k_ws hsL (d + 1) (by omega) S PR tm a k ws o u K' hXu ⟨w1, w2⟩ (by rw [e19]; exact w3) ?_ w5 (by omega) (by omega) rfl (fun t o' ws' t1 t2 t3 t4 t5 t6 t7 t8 => hK' t ⟨ws', o', t1, t2, t3, by rw [← e19]; exact t4, t5, t6, ?_, by rw [t8]; exact w6⟩)
          · rcases w4 with ⟨e1, _⟩ | ⟨e1, _⟩
            · injection e1 with e2 e3
              rw [e2, e3]
              exact ⟨Or.inl rfl, fun _ h => absurd h List.not_mem_nil⟩
            · exact ⟨Or.inr (e1 k List.mem_cons_self), fun p hp => e1 p (List.mem_cons_of_mem _ hp)⟩
          · rcases w4 with ⟨e1, e2, e3⟩ | ⟨e1, e2⟩
            · omega
            · have : k.2 ≠ 0 := by
                have := e1 k List.mem_cons_self
                omega
              rw [if_neg this] at t7
              omega
      · have ew : ws = [] := List.length_eq_zero_iff.mp (by omega)
        subst ew
        have eo : Z.2 = o := w6.symm
        refine hK (u.1 55 10) u hIu hfw (fun _ => Or.inr ⟨A, by rw [h11]; exact atu, Or.inl ⟨q2, by rw [hout, eo]; exact w5, by rw [hout, eo]; omega⟩⟩) (Or.inl ⟨by rw [eo]; omega, by rw [eo]; exact h10, by rw [eo]; exact w5⟩)
      · obtain ⟨ws', o', t1, t2, t3, t4, t5, t6, t7, t8⟩ := ht
        have x4 : x2 ≤ 4001 := by
          rcases w4 with ⟨_, _, e3⟩ | ⟨_, e2⟩
          · omega
          · omega
        exact ⟨10000 - (x2 + 1), by omega, rfl, x2 + 1, rfl, t1, wk_fw_t hfw (wk_fw_of t2), by rw [(t2 trivial).2.2 11 (by decide)]; exact h11, Or.inl ⟨ws', o', t3, t4, Or.inr ⟨t5, t7⟩, t6, t8, by omega⟩, rfl⟩
    · refine w_k_wr54 (G := fun _ => False) (c_dv_pempty56 hsL (d + 1) (by omega)) (fun q1 => by omega) hIu (by omega) (fun q => hK (-1) u hIu hfw (fun _ => Or.inr ⟨A, by rw [h11]; exact atu, Or.inr ⟨q, by rw [hout]; exact c2⟩⟩) (Or.inr ⟨c2, rfl⟩)) (fun q1 => by omega) (fun q1 => by omega)
