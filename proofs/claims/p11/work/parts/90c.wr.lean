section
/-! ===== the desk: write, all of it ===== -/
theorem w_k_wrN {CALL : sx_Ca} {sL : Nat} {sx : Nat → Int32} {Q : Nat → sx_L → sx_S → Prop} {R : Int → sx_S → Prop} {s : sx_S} {a0 : Int} (hI : cx_I s) (p0 : 0 ≤ a0 ∧ a0 ≤ 2000) (e0 : s.1 55 11 = a0) (hQ : Q 54 [(0, .inr (.inl 55)), (2, .inl 0)] s) : sx_wp true sL sx eX10_write CALL [(54, [0, 2])] Q R 400 0 (sx_argsF 0 [.inr (.inl 55), .inl a0]) [] s := by
  repeat' (first | (with_reducible (rintro _ rfl)) | (with_reducible intro _) | (refine And.intro ?_ ?_) | (fail))
  all_goals (try dsimp only at *)
  all_goals (first | trivial | assumption | omega | (exfalso; omega) | skip)
theorem w_k_wrM {CALL : sx_Ca} {sL : Nat} {sx : Nat → Int32} {Q : Nat → sx_L → sx_S → Prop} {R : Int → sx_S → Prop} {s : sx_S} {a0 : Int} (hI : cx_I s) (p0 : -2147483648 ≤ a0 ∧ a0 < 0) (hK : R (-1) s) : sx_wp true sL sx eX10_write CALL [(54, [0, 2])] Q R 400 0 (sx_argsF 0 [.inr (.inl 55), .inl a0]) [] s := by
  repeat' (first | (with_reducible (rintro _ rfl)) | (with_reducible intro _) | (refine And.intro ?_ ?_) | (fail))
  all_goals (try dsimp only at *)
  all_goals (first | trivial | assumption | omega | (exfalso; omega) | skip)
theorem w_k_wrY {CALL : sx_Ca} {sL : Nat} {sx : Nat → Int32} {Q : Nat → sx_L → sx_S → Prop} {R : Int → sx_S → Prop} {s : sx_S} {a0 : Int} {P1 P2 P3 : sx_S → Prop} (hI : cx_I s) (p0 : 0 ≤ a0 ∧ a0 ≤ 2000) (e0 : s.1 55 11 ≠ a0) (h_rel : ∀ K : Int → sx_S → Prop, (∀ z t, P1 t → K z t) → CALL 45 [.inr (.inl 29), .inl 0] (sx_uf (sx_uf s.1 55 11 a0) 55 10 0, s.2) K) (h_clr : ∀ t, P1 t → ∀ K : Int → sx_S → Prop, (∀ z u, P2 u → K z u) → CALL 58 [.inr (.inl 56)] t K) (h_pu : ∀ t, P2 t → ∀ K : Int → sx_S → Prop, (∀ z u, P3 u → K z u) → CALL 61 [.inr (.inl 56), .inl a0, .inl (-1), .inl 0, .inl (-1), .inl 0, .inl 0] t K) (hQ : ∀ t, P3 t → Q 54 [(0, .inr (.inl 55)), (2, .inl 0)] t) : sx_wp true sL sx eX10_write CALL [(54, [0, 2])] Q R 400 0 (sx_argsF 0 [.inr (.inl 55), .inl a0]) [] s := by
  repeat' (first | (with_reducible (rintro _ rfl)) | (with_reducible intro _) | (refine And.intro ?_ ?_) | (refine h_rel _ (fun z1 t1 zz1 => ?_)) | (refine h_clr t1 zz1 _ (fun z2 t2 zz2 => ?_)) | (refine h_pu t2 zz2 _ (fun z3 t3 zz3 => ?_)) | (fail))
  all_goals (try dsimp only at *)
  all_goals (first | trivial | assumption | omega | (exfalso; omega) | (exact hQ t3 zz3) | skip)
theorem w_k_wr54 {CALL : sx_Ca} {sL : Nat} {sx : Nat → Int32} {Q : Nat → sx_L → sx_S → Prop} {R : Int → sx_S → Prop} (h_emp : ∀ (s : sx_S) (K : Int → sx_S → Prop), cx_I s → (∀ z : Int, (0 ≤ z ∧ z ≤ 1) → (s.1 56 6 = 0 → z = 1) → (s.1 56 6 ≠ 0 → z = 0) → K z s) → CALL 59 [.inr (.inl 56)] s K) {s : sx_S} {x2 : Int} {G : sx_S → Prop} (h_ws : s.1 55 10 ≤ 4000 → s.1 56 6 ≠ 0 → ∀ K : Int → sx_S → Prop, (∀ t, G t → K 0 t) → CALL 128 [.inr (.inl 55)] s K) (hI : cx_I s) (q2 : 0 ≤ x2 ∧ x2 < 1000000) (hK1 : 4000 < s.1 55 10 → R (-1) s) (hK2 : s.1 55 10 ≤ 4000 → s.1 56 6 = 0 → R (s.1 55 10) s) (hQ : s.1 55 10 ≤ 4000 → s.1 56 6 ≠ 0 → ∀ t, G t → Q 54 [(0, .inr (.inl 55)), (2, .inl (x2 + 1))] t) : sx_wp true sL sx eX10_write CALL [(54, [0, 2])] Q R 400 54 [(0, .inr (.inl 55)), (2, .inl x2)] [] s := by
  have zzy : sx_w true (x2 + 1) = x2 + 1 := px_wid (by omega) (by omega)
  repeat' (first | (with_reducible (rintro _ rfl)) | (with_reducible intro _) | (refine And.intro ?_ ?_) | (refine h_emp s _ hI (fun v v0 v1 v2 => ?_)) | (refine h_ws (by omega) (by omega) _ (fun t zzt => ?_)) | (fail))
  all_goals (try dsimp only at *)
  all_goals (first | trivial | assumption | omega | (exfalso; omega) | (exact hK1 (by omega)) | (exact hK2 (by omega) (by omega)) | (have zz9 := hQ (by omega) (by omega) _ zzt; rw [← zzy] at zz9; exact zz9) | skip)
/-- what is written of a root -/
def wk_out (E : we_E (List Int)) (th : Int → rf_N) (S : vx_S) (a : List (Int × List Int)) (A : rf_N) : List Int := ((we_W E (wd_v th S.2.2.2.2 (A, dv_lk [], 0))).1 0 (a, [])).2
/-- what is on paper -/
def wk_ink (E : we_E (List Int)) (th : Int → rf_N) (S : vx_S) (a : List (Int × List Int)) (u : sx_S) : Prop := True → u.1 55 11 < 0 ∨ ∃ A, dv_at u S.2.2.2.2 A (u.1 55 11) ∧ ((u.1 56 6 = 0 ∧ wb_Dp u (wk_out E th S a A) ∧ (wk_out E th S a A).length ≤ 4000) ∨ (4000 < u.1 55 10 ∧ 4000 < (wk_out E th S a A).length))
theorem dv_at_fun {s : sx_S} {AR : Nat → List Int} {A B : rf_N} {z : Int} (h1 : dv_at s AR A z) (h2 : dv_at s AR B z) : A = B := by
  obtain ⟨j, k, h, F, e1, ⟨a1, _⟩, ⟨a2, a3⟩, a4, _⟩ := h1
  obtain ⟨j', k', h', F', e2, ⟨b1, _⟩, ⟨b2, b3⟩, b4, _⟩ := h2
  have ej : j' = j := by omega
  subst ej
  have eF : F = F' := rf_nd_inj a4 b4
  rw [e1, e2, eF, ← a2, ← a3, ← b2, ← b3]
section
variable {nm : Int → List Int} {ht : Int → List rf_T} {th : Int → rf_N} {AR : Nat → List Int}
theorem wk_by_le {n : Nat} (q : wk_I) (w : we_A (List Int)) (h : n ≤ w.2.length) : n ≤ (wk_by (wk_E nm ht) th AR q w).2.length := by
  have hp : ∀ (c : Int) (o : List Int), n ≤ o.length → n ≤ (wk_pb c o).length := fun c o h => by
    show n ≤ (o ++ [c]).length
    rw [List.length_append]
    omega
  have hb : ∀ (l : List Int) (w : we_A (List Int)), n ≤ w.2.length → n ≤ (we_b (wk_E nm ht) l w).2.length := fun l w h => by
    have e : we_b (wk_E nm ht) l w = (w.1, w.2 ++ l) := wk_bs l w
    rw [e]
    show n ≤ (w.2 ++ l).length
    rw [List.length_append]
    omega
  have hW : ∀ (v : rf_N) (dp : Int) (w : we_A (List Int)), n ≤ w.2.length → n ≤ ((we_W (wk_E nm ht) v).1 dp w).2.length := fun v dp w h => (we_sat (P := fun o => n ≤ o.length) hp (fun h' xs dp w hw => we_hf_sat (P := fun o => n ≤ o.length) hp ht h' xs dp w hw) dp w h).1
  unfold wk_by
  by_cases c2 : q.2 = 2
  · rw [if_pos c2]
    exact hb _ _ h
  · rw [if_neg c2]
    by_cases c1 : q.2 = 1
    · rw [if_pos c1]
      unfold we_gv we_g
      by_cases c : (wz_q (wd_v th AR (wd_it q.1))).1 = 0 ∨ rf_len (wz_F (wd_v th AR (wd_it q.1))) ≠ 0
      · rw [if_pos c]
        exact hb [41] _ (hW _ _ _ (hb [40] _ (hb [32] _ h)))
      · rw [if_neg c]
        exact hW _ _ _ (hb [32] _ h)
    · rw [if_neg c1]
      exact hW _ _ _ h
theorem wk_al_le {n : Nat} : ∀ (ws : List wk_I) (w : we_A (List Int)), n ≤ w.2.length → n ≤ (wk_al (wk_E nm ht) th AR ws w).2.length
  | [], _, h => h
  | q :: ws, w, h => wk_al_le ws _ (wk_by_le q w h)
end
theorem c_k_write {tv tc : Int → rf_T} {n0 : Int} {Qs : (Int → rf_N) → Prop} {th : Int → rf_N} {rk : Int → Nat} {nm : Int → List Int} {sL : Nat} {sx : Nat → Int32} (hsL : sL ≤ 3072) (d : Nat) (hd : 22 ≤ d) : ∀ (S : vx_S) (PR : Int → List (Int × Int)) (tm : Int → Int → rf_T) (a : List (Int × List Int)) (A : rf_N) (z : Int) (s : sx_S) (K : Int → sx_S → Prop), wk_X tv tc n0 Qs th rk nm s S PR tm a → dv_at s S.2.2.2.2 A z → wk_T tv tc tm S th (s.1 19 2) 0 a 0 A [] 0 0 → wk_ink (wk_E nm (wk_ht tm)) th S a s → (∀ zz t, cx_I t → wk_fw s t → wk_ink (wk_E nm (wk_ht tm)) th S a t → (((wk_out (wk_E nm (wk_ht tm)) th S a A).length ≤ 4000 ∧ zz = ((wk_out (wk_E nm (wk_ht tm)) th S a A).length : Int) ∧ wb_Dp t (wk_out (wk_E nm (wk_ht tm)) th S a A)) ∨ (4000 < (wk_out (wk_E nm (wk_ht tm)) th S a A).length ∧ zz = -1)) → K zz t) → sx_C sL sx d 123 [.inr (.inl 55), .inl z] s K := by
  intro S PR tm a A z s K hX hA hT hink hK
  obtain ⟨hG, _⟩ := hX trivial
  obtain ⟨g1, _⟩ := hG trivial
  have rz := dv_at_z hA
  have r11 := g1.fld 11 6 (by decide) rfl
  have hZ : ∃ Z, Z = (we_W (wk_E nm (wk_ht tm)) (wd_v th S.2.2.2.2 (A, dv_lk [], 0))).1 0 (a, []) := ⟨_, rfl⟩
  obtain ⟨Z, hZ⟩ := hZ
  have hout : wk_out (wk_E nm (wk_ht tm)) th S a A = Z.2 := by
    rw [hZ]
    rfl
  rw [hout] at hK
  obtain ⟨d, rfl⟩ : ∃ e, d = e + 2 := ⟨d - 2, by omega⟩
  refine sx_methL (wr := true) (n := 400) (n' := 400) (stop := [(54, [0, 2])]) (fun n pc ls u => pc = 54 ∧ ∃ x2 : Nat, ls = [(0, .inr (.inl 55)), (2, .inl (x2 : Int))] ∧ cx_I u ∧ wk_fw s u ∧ u.1 55 11 = z ∧ ((∃ (ws : List wk_I) (o : List Int), (wk_ws u S.2.2.2.2 (u.1 29 3) ws ∧ u.1 56 6 = (ws.length : Int)) ∧ wk_en tv tc tm S th (s.1 19 2) 0 a ws ∧ ((ws = [(((A, []), 0, 0), 0)] ∧ o = [] ∧ x2 = 0) ∨ ((∀ p ∈ ws, p.2 = 1 ∨ p.2 = 2) ∧ x2 ≤ o.length + 1)) ∧ wb_Dp u o ∧ (wk_al (wk_E nm (wk_ht tm)) th S.2.2.2.2 ws (a, o)).2 = Z.2 ∧ x2 ≤ 4002) ∨ (4000 < u.1 55 10 ∧ 4000 < Z.2.length ∧ x2 = 0)) ∧ n = 10000 - x2) hsL (e := eX10_write) rfl ?_ ?_
  · by_cases e0 : s.1 55 11 = z
    · refine w_k_wrN g1 (by omega) e0 ?_
      refine ⟨_, rfl, 0, rfl, g1, wk_fw_of (wk_fr_refl s), e0, ?_, rfl⟩
      rcases hink trivial with q | ⟨A', a1, a2⟩
      · omega
      · rw [e0] at a1
        have eA := dv_at_fun a1 hA
        subst eA
        rw [hout] at a2
        rcases a2 with ⟨a2, a3, a4⟩ | ⟨a2, a3⟩
        · refine Or.inl ⟨[], Z.2, ⟨trivial, by rw [a2]; rfl⟩, trivial, Or.inr ⟨fun _ h => absurd h List.not_mem_nil, Nat.zero_le _⟩, a3, rfl, by omega⟩
        · exact Or.inr ⟨a2, a3, rfl⟩
    · have hI1 : cx_I (sx_uf (sx_uf s.1 55 11 z) 55 10 0, s.2) := cx_I_uf rfl rfl (cx_I_uf rfl rfl g1 (by omega) (by omega)) (by decide) (by decide)
      refine w_k_wrY (P1 := fun t => cx_I t ∧ cx_F [(29, 29)] (sx_uf (sx_uf s.1 55 11 z) 55 10 0, s.2) t ∧ t.1 29 3 = 0) (P2 := fun t => cx_I t ∧ cx_F [(29, 29), (56, 56)] (sx_uf (sx_uf s.1 55 11 z) 55 10 0, s.2) t ∧ t.1 29 3 = 0 ∧ t.1 56 6 = 0) (P3 := fun t => ∃ v, (cx_I v ∧ cx_F [(29, 29), (56, 56)] (sx_uf (sx_uf s.1 55 11 z) 55 10 0, s.2) v ∧ v.1 29 3 = 0 ∧ v.1 56 6 = 0) ∧ cx_I t ∧ cx_F [(56, 62)] v t ∧ dv_pu 56 (z, -1, 0, -1, 0, 0) v t) g1 (by omega) e0 (fun K' hK' => c_dv_rel hsL (d + 1) (by omega) 0 _ K' hI1 (by omega) (fun zz t t1 t2 t3 => hK' zz t ⟨t1, t2, t3 (Int.le_refl _) (hI1.fld 29 3 (by decide) rfl).1⟩)) (fun t ht K' hK' => c_dv_pclear56 hsL (d + 1) (by omega) t K' ht.1 (fun zz v t1 t2 t3 => hK' zz v ⟨t1, cx_F_step t2 rfl (cx_F_step ht.2.1 rfl (cx_F_refl _ _)), by rw [(t2.same 29 rfl).1]; exact ht.2.2, t3⟩)) (fun t ht K' hK' => c_dv_pair56 hsL (d + 1) (by omega) _ _ _ _ _ _ t K' ht.1 (by omega) (by omega) (by omega) (by omega) (by omega) (by omega) (by omega) (fun zz v t1 t2 t3 => hK' zz v ⟨t, ht, t1, t2, t3⟩)) (fun t ht => ?_)
      obtain ⟨v, ⟨v1, v2, v3, v4⟩, t1, t2, t3⟩ := ht
      have nf1 : dv_nf (s.1 11 6) S.2.2.2.2 S.2.2.2.2 s v := fun _ => ⟨fun _ => ⟨by rw [(v2.same 11 rfl).1]; exact Int.le_refl _, fun i _ => by
        rw [(v2.same 12 rfl).2, (v2.same 13 rfl).2, (v2.same 14 rfl).2, (v2.same 15 rfl).2, (v2.same 16 rfl).2]
        exact ⟨rfl, rfl, rfl, rfl, rfl⟩⟩, fun _ _ => rfl⟩
      have atv : dv_at v S.2.2.2.2 A z := dv_at_fr (Int.le_refl _) nf1 hA
      have hpu := wk_ws_pu (A := A) (c := []) (r := []) t2 t3 (by rw [v4]; rfl) (Int.le_refl _) trivial (fun _ => ⟨atv, rfl⟩)
      have e29 : t.1 29 3 = 0 := by rw [(t2.same 29 rfl).1]; exact v3
      have e55 : t.1 55 = sx_uf (sx_uf s.1 55 11 z) 55 10 0 55 := by rw [(t2.same 55 rfl).1, (v2.same 55 rfl).1]
      have e5510 : t.1 55 10 = 0 := by
        rw [e55]
        exact px_us _ _ _ _
      have e5511 : t.1 55 11 = z := by
        rw [e55, sx_uf_if, if_neg (by decide)]
        exact px_us _ _ _ _
      have h33 : t.1 33 = s.1 33 := by
        rw [(t2.same 33 rfl).1, (v2.same 33 rfl).1]
        funext k
        show sx_uf (sx_uf s.1 55 11 z) 55 10 0 33 k = s.1 33 k
        rw [sx_uf_if, if_neg (by omega), sx_uf_if, if_neg (by omega)]
      have hF0 : cx_F [(55, 55)] s (sx_uf (sx_uf s.1 55 11 z) 55 10 0, s.2) := cx_F_uf rfl (cx_F_uf rfl (cx_F_refl _ _))
      refine ⟨_, rfl, 0, rfl, t1, fun _ => ⟨cx_F_step t2 rfl (cx_F_step v2 rfl (cx_F_step hF0 rfl (cx_F_refl _ _))), fun k _ _ => by rw [h33], fun k k10 k11 => ?_⟩, e5511, Or.inl ⟨[(((A, []), 0, 0), 0)], [], ⟨by rw [e29]; exact hpu.1, hpu.2⟩, ⟨fun _ => hT, trivial⟩, Or.inl ⟨rfl, rfl, rfl⟩, ⟨by rw [e5510]; rfl, fun i hi => absurd hi (Nat.not_lt_zero _)⟩, ?_, by omega⟩, rfl⟩
      · rw [e55, sx_uf_if, if_neg (by omega), sx_uf_if, if_neg (by omega)]
      · rw [hZ]
        show (wk_by (wk_E nm (wk_ht tm)) th S.2.2.2.2 (((A, []), 0, 0), 0) (a, [])).2 = _
        unfold wk_by
        rw [if_neg (show ¬ (0 : Int) = 2 by decide), if_neg (show ¬ (0 : Int) = 1 by decide)]
        rfl
  · rintro n pc ls u ⟨rfl, x2, rfl, hIu, hfw, h11, hc, rfl⟩
    have atu : dv_at u S.2.2.2.2 A z := dv_at_fr (Int.le_refl _) (dv_nf_F _ (hfw trivial).1 (by decide)) hA
    rcases hc with ⟨ws, o, ⟨w1, w2⟩, w3, w4, w5, w6, w7⟩ | ⟨c1, c2, c3⟩
    · have h10 := w5.1
      have hlen : o.length ≤ Z.2.length := by
        rw [← w6]
        exact wk_al_le ws (a, o) (Nat.le_refl _)
      refine w_k_wr54 (G := fun t => ∃ (ws' : List wk_I) (o' : List Int), cx_I t ∧ wk_fr u t ∧ (wk_ws t S.2.2.2.2 (t.1 29 3) ws' ∧ t.1 56 6 = (ws'.length : Int)) ∧ wk_en tv tc tm S th (s.1 19 2) 0 a ws' ∧ (∀ p ∈ ws', p.2 = 1 ∨ p.2 = 2) ∧ wb_Dp t o' ∧ x2 + 1 ≤ o'.length + 1 ∧ (wk_al (wk_E nm (wk_ht tm)) th S.2.2.2.2 ws' (a, o')).2 = Z.2) (c_dv_pempty56 hsL (d + 1) (by omega)) (fun q1 q2 K' hK' => ?_) hIu (by omega) (fun q => hK (-1) u hIu hfw (fun _ => Or.inr ⟨A, by rw [h11]; exact atu, Or.inr ⟨q, by rw [hout]; omega⟩⟩) (Or.inr ⟨by omega, rfl⟩)) (fun q1 q2 => ?_) (fun q1 q2 t ht => ?_)
      · have hXu := wk_X_fw hX hIu hfw
        have e19 : u.1 19 2 = s.1 19 2 := by rw [((hfw trivial).1.same 19 rfl).1]
        cases ws with
        | nil =>
          exfalso
          rw [w2] at q2
          exact q2 rfl
        | cons k ws =>
          refine c_k_ws hsL (d + 1) (by omega) S PR tm a k ws o u K' hXu ⟨w1, w2⟩ (by rw [e19]; exact w3) ?_ w5 (by omega) (by omega) rfl (fun t o' ws' t1 t2 t3 t4 t5 t6 t7 t8 => hK' t ⟨ws', o', t1, t2, t3, by rw [← e19]; exact t4, t5, t6, ?_, by rw [t8]; exact w6⟩)
          · rcases w4 with ⟨e1, _⟩ | ⟨e1, _⟩
            · injection e1 with e2 e3
              rw [e2, e3]
              exact ⟨Or.inl rfl, fun _ h => absurd h List.not_mem_nil⟩
            · exact ⟨Or.inr (e1 k List.mem_cons_self), fun p hp => e1 p (List.mem_cons_of_mem _ hp)⟩
          · rcases w4 with ⟨e1, e2, e3⟩ | ⟨e1, e2⟩
            · omega
            · have : k.2 ≠ 0 := by
                have := e1 k List.mem_cons_self
                omega
              rw [if_neg this] at t7
              omega
      · have ew : ws = [] := List.length_eq_zero_iff.mp (by omega)
        subst ew
        have eo : Z.2 = o := w6.symm
        refine hK (u.1 55 10) u hIu hfw (fun _ => Or.inr ⟨A, by rw [h11]; exact atu, Or.inl ⟨q2, by rw [hout, eo]; exact w5, by rw [hout, eo]; omega⟩⟩) (Or.inl ⟨by rw [eo]; omega, by rw [eo]; exact h10, by rw [eo]; exact w5⟩)
      · obtain ⟨ws', o', t1, t2, t3, t4, t5, t6, t7, t8⟩ := ht
        have x4 : x2 ≤ 4001 := by
          rcases w4 with ⟨_, _, e3⟩ | ⟨_, e2⟩
          · omega
          · omega
        exact ⟨10000 - (x2 + 1), by omega, rfl, x2 + 1, rfl, t1, wk_fw_t hfw (wk_fw_of t2), by rw [(t2 trivial).2.2 11 (by decide)]; exact h11, Or.inl ⟨ws', o', t3, t4, Or.inr ⟨t5, t7⟩, t6, t8, by omega⟩, rfl⟩
    · refine w_k_wr54 (G := fun _ => False) (c_dv_pempty56 hsL (d + 1) (by omega)) (fun q1 => by omega) hIu (by omega) (fun q => hK (-1) u hIu hfw (fun _ => Or.inr ⟨A, by rw [h11]; exact atu, Or.inr ⟨q, by rw [hout]; exact c2⟩⟩) (Or.inr ⟨c2, rfl⟩)) (fun q1 => by omega) (fun q1 => by omega)
end
section
/-! ===== the desk: size, letter, side, sideLetter: what is asked of write ===== -/
theorem w_k_urN {CALL : sx_Ca} {sL : Nat} {sx : Nat → Int32} {Q : Nat → sx_L → sx_S → Prop} {R : Int → sx_S → Prop} (h_tot : ∀ (s : sx_S) (K : Int → sx_S → Prop), cx_I s → (∀ z : Int, (z = s.1 22 2) → K z s) → CALL 52 [.inr (.inl 22)] s K) {s : sx_S} {a0 : Int} (hI : cx_I s) (pr : -2147483648 ≤ a0 ∧ a0 ≤ 2147483647) (p0 : a0 < 0 ∨ s.1 22 2 ≤ a0) (hK : R (-1) s) : sx_wp true sL sx eX1_unknownRoot CALL [] Q R 400 0 (sx_argsF 0 [.inr (.inl 18), .inl a0]) [] s := by
  have r22 := hI.fld 22 2 (by decide) rfl
  repeat' (first | (with_reducible (rintro _ rfl)) | (with_reducible intro _) | (refine And.intro ?_ ?_) | (refine h_tot s _ hI (fun v v1 => ?_); obtain rfl := v1) | (fail))
  all_goals (try dsimp only at *)
  all_goals (first | trivial | assumption | omega | (exfalso; omega) | skip)
theorem c_k_urN {sL : Nat} {sx : Nat → Int32} (hsL : sL ≤ 3072) (d : Nat) (hd : 3 ≤ d) : ∀ (a0 : Int) (s : sx_S) (K : Int → sx_S → Prop), cx_I s → (-2147483648 ≤ a0 ∧ a0 ≤ 2147483647) → (a0 < 0 ∨ s.1 22 2 ≤ a0) → K (-1) s → sx_C sL sx d 17 [.inr (.inl 18), .inl a0] s K := by
  intro a0 s K hI pr p0 hK
  obtain ⟨d, rfl⟩ : ∃ e, d = e + 2 := ⟨d - 2, by omega⟩
  exact sx_meth (wr := true) (n := 400) hsL (e := eX1_unknownRoot) rfl (w_k_urN (Q := fun _ _ _ => False) (c_dv_tot hsL (d + 1) (by omega)) hI pr p0 hK)
theorem w_k_rtN {CALL : sx_Ca} {sL : Nat} {sx : Nat → Int32} {Q : Nat → sx_L → sx_S → Prop} {R : Int → sx_S → Prop} {s : sx_S} {a0 a1 : Int} (hI : cx_I s) (pr : -2147483648 ≤ a0 ∧ a0 ≤ 2147483647) (pr1 : -2147483648 ≤ a1 ∧ a1 ≤ 2147483647) (p0 : a0 < 0 ∨ s.1 18 10 ≤ a0 ∨ a1 < 0 ∨ 1 < a1) (hK : R (-1) s) : sx_wp true sL sx eX1_sideRoot CALL [] Q R 400 0 (sx_argsF 0 [.inr (.inl 18), .inl a0, .inl a1]) [] s := by
  have r18 := hI.fld 18 10 (by decide) rfl
  repeat' (first | (with_reducible (rintro _ rfl)) | (with_reducible intro _) | (refine And.intro ?_ ?_) | (fail))
  all_goals (try dsimp only at *)
  all_goals (first | trivial | assumption | omega | (exfalso; omega) | (simp only [sx_w_t] at *; omega) | skip)
theorem c_k_rtN {sL : Nat} {sx : Nat → Int32} (hsL : sL ≤ 3072) (d : Nat) (hd : 2 ≤ d) : ∀ (a0 a1 : Int) (s : sx_S) (K : Int → sx_S → Prop), cx_I s → (-2147483648 ≤ a0 ∧ a0 ≤ 2147483647) → (-2147483648 ≤ a1 ∧ a1 ≤ 2147483647) → (a0 < 0 ∨ s.1 18 10 ≤ a0 ∨ a1 < 0 ∨ 1 < a1) → K (-1) s → sx_C sL sx d 18 [.inr (.inl 18), .inl a0, .inl a1] s K := by
  intro a0 a1 s K hI pr pr1 p0 hK
  obtain ⟨d, rfl⟩ : ∃ e, d = e + 2 := ⟨d - 2, by omega⟩
  exact sx_meth (wr := true) (n := 400) hsL (e := eX1_sideRoot) rfl (w_k_rtN (Q := fun _ _ _ => False) hI pr pr1 p0 hK)
theorem c_k_wrM {sL : Nat} {sx : Nat → Int32} (hsL : sL ≤ 3072) (d : Nat) (hd : 2 ≤ d) : ∀ (a0 : Int) (s : sx_S) (K : Int → sx_S → Prop), cx_I s → (-2147483648 ≤ a0 ∧ a0 < 0) → K (-1) s → sx_C sL sx d 123 [.inr (.inl 55), .inl a0] s K := by
  intro a0 s K hI p0 hK
  obtain ⟨d, rfl⟩ : ∃ e, d = e + 2 := ⟨d - 2, by omega⟩
  refine sx_methL (wr := true) (n := 400) (n' := 400) (stop := [(54, [0, 2])]) (fun _ _ _ _ => False) hsL (e := eX10_write) rfl ?_ ?_
  · exact w_k_wrM hI p0 hK
  · intro n pc ls u h
    exact h.elim
theorem w_k_byte {CALL : sx_Ca} {sL : Nat} {sx : Nat → Int32} {Q : Nat → sx_L → sx_S → Prop} {R : Int → sx_S → Prop} {s : sx_S} {a0 : Int} (hI : cx_I s) (pr : -2147483648 ≤ a0 ∧ a0 ≤ 2147483647) (hK1 : 0 ≤ a0 → a0 < s.1 55 10 → a0 < 4000 → R (s.2.1 65 a0.toNat) s) (hK0 : (a0 < 0 ∨ s.1 55 10 ≤ a0 ∨ 4000 ≤ a0) → R (-1) s) : sx_wp true sL sx eX10_byteAt CALL [] Q R 400 0 (sx_argsF 0 [.inr (.inl 55), .inl a0]) [] s := by
  have r10 := hI.fld 55 10 (by decide) rfl
  repeat' (first | (with_reducible (rintro _ rfl)) | (with_reducible intro _) | (refine And.intro ?_ ?_) | (fail))
  all_goals (try dsimp only at *)
  all_goals (first | trivial | assumption | omega | (exfalso; omega) | (exact hK1 (by omega) (by omega) (by omega)) | (exact hK0 (by omega)) | skip)
theorem c_k_byte {sL : Nat} {sx : Nat → Int32} (hsL : sL ≤ 3072) (d : Nat) (hd : 2 ≤ d) : ∀ (a0 : Int) (s : sx_S) (K : Int → sx_S → Prop), cx_I s → (-2147483648 ≤ a0 ∧ a0 ≤ 2147483647) → (0 ≤ a0 → a0 < s.1 55 10 → a0 < 4000 → K (s.2.1 65 a0.toNat) s) → ((a0 < 0 ∨ s.1 55 10 ≤ a0 ∨ 4000 ≤ a0) → K (-1) s) → sx_C sL sx d 122 [.inr (.inl 55), .inl a0] s K := by
  intro a0 s K hI pr h1 h0
  obtain ⟨d, rfl⟩ : ∃ e, d = e + 2 := ⟨d - 2, by omega⟩
  exact sx_meth (wr := true) (n := 400) hsL (e := eX10_byteAt) rfl (w_k_byte (Q := fun _ _ _ => False) hI pr h1 h0)
theorem w_k_sizeN {CALL : sx_Ca} {sL : Nat} {sx : Nat → Int32} {Q : Nat → sx_L → sx_S → Prop} {R : Int → sx_S → Prop} {s : sx_S} {a0 : Int} (hI : cx_I s) (p0 : -2147483648 ≤ a0 ∧ a0 ≤ 2147483647) (hc : ∀ K : Int → sx_S → Prop, K 0 s → CALL 147 [.inr (.inl 0)] s K) (hK : R (-1) s) : sx_wp true sL sx eX11_size CALL [] Q R 400 0 (sx_argsF 0 [.inr (.inl 0), .inl a0]) [] s := by
  repeat' (first | (with_reducible (rintro _ rfl)) | (with_reducible intro _) | (refine And.intro ?_ ?_) | (refine hc _ ?_) | (fail))
  all_goals (try dsimp only at *)
  all_goals (first | trivial | assumption | omega | (exfalso; omega) | skip)
theorem w_k_sizeY {CALL : sx_Ca} {sL : Nat} {sx : Nat → Int32} {Q : Nat → sx_L → sx_S → Prop} {R : Int → sx_S → Prop} {s : sx_S} {a0 r : Int} {PW : Int → sx_S → Prop} (hI : cx_I s) (p0 : -2147483648 ≤ a0 ∧ a0 ≤ 2147483647) (rr : -2147483648 ≤ r ∧ r ≤ 2147483647) (hc : ∀ K : Int → sx_S → Prop, K 1 s → CALL 147 [.inr (.inl 0)] s K) (hr : ∀ K : Int → sx_S → Prop, K r s → CALL 17 [.inr (.inl 18), .inl a0] s K) (hw : ∀ K : Int → sx_S → Prop, (∀ z t, PW z t → K z t) → CALL 123 [.inr (.inl 55), .inl r] s K) (hz : ∀ z t, PW z t → -2147483648 ≤ z ∧ z ≤ 2147483647) (hK : ∀ z t, PW z t → R z t) : sx_wp true sL sx eX11_size CALL [] Q R 400 0 (sx_argsF 0 [.inr (.inl 0), .inl a0]) [] s := by
  repeat' (first | (with_reducible (rintro _ rfl)) | (with_reducible intro _) | (refine And.intro ?_ ?_) | (refine hc _ ?_) | (refine hr _ ?_) | (refine hw _ (fun zz1 zt1 zp1 => ?_); have zr1 := hz zz1 zt1 zp1) | (fail))
  all_goals (try dsimp only at *)
  all_goals (first | trivial | assumption | omega | (exfalso; omega) | (exact hK _ _ zp1) | skip)
theorem c_k_size {sL : Nat} {sx : Nat → Int32} (hsL : sL ≤ 3072) (d : Nat) (hd : 26 ≤ d) : ∀ (a0 : Int) (s : sx_S) (K PW : Int → sx_S → Prop), cx_I s → (-2147483648 ≤ a0 ∧ a0 ≤ 2147483647) → (∀ zz t, PW zz t → -1 ≤ zz ∧ zz ≤ 4000) → (s.1 0 2 ≠ 0 ∧ s.1 0 3 = 0 ∧ 0 ≤ a0 ∧ a0 < s.1 22 2 → ∀ d', 22 ≤ d' → ∀ K' : Int → sx_S → Prop, (∀ zz t, PW zz t → K' zz t) → sx_C sL sx d' 123 [.inr (.inl 55), .inl (s.2.1 25 a0.toNat)] s K') → ((s.1 0 2 ≠ 0 ∧ s.1 0 3 = 0 ∧ 0 ≤ a0 ∧ a0 < s.1 22 2) → ∀ zz t, PW zz t → K zz t) → (¬ (s.1 0 2 ≠ 0 ∧ s.1 0 3 = 0 ∧ 0 ≤ a0 ∧ a0 < s.1 22 2) → K (-1) s) → sx_C sL sx d 143 [.inr (.inl 0), .inl a0] s K := by
  intro a0 s K PW hI p0 hz hw hK hN
  have r22 := hI.fld 22 2 (by decide) rfl
  have ra := hI.arr 25 (by decide) rfl a0.toNat
  obtain ⟨d, rfl⟩ : ∃ e, d = e + 2 := ⟨d - 2, by omega⟩
  by_cases c : s.1 0 2 ≠ 0 ∧ s.1 0 3 = 0
  · by_cases c2 : s.1 0 2 ≠ 0 ∧ s.1 0 3 = 0 ∧ 0 ≤ a0 ∧ a0 < s.1 22 2
    · exact sx_meth (wr := true) (n := 400) hsL (e := eX11_size) rfl (w_k_sizeY (Q := fun _ _ _ => False) (r := (s.2.1 25 a0.toNat)) (PW := PW) hI p0 ra (fun K' hK' => c8_hasSol hsL (d + 1) (by omega) s K' hI (fun _ _ => hK') (fun q => absurd q (by omega))) (fun K' hK' => c_dw_ur hsL (d + 1) (by omega) a0 s K' hI (by omega) hK') (fun K' hK' => hw c2 (d + 1) (by omega) K' hK') (fun zz t h => by have := hz zz t h; omega) (hK c2))
    · exact sx_meth (wr := true) (n := 400) hsL (e := eX11_size) rfl (w_k_sizeY (Q := fun _ _ _ => False) (r := -1) (PW := fun zz t => zz = -1 ∧ t = s) hI p0 (by decide) (fun K' hK' => c8_hasSol hsL (d + 1) (by omega) s K' hI (fun _ _ => hK') (fun q => absurd q (by omega))) (fun K' hK' => c_k_urN hsL (d + 1) (by omega) a0 s K' hI p0 (by omega) hK') (fun K' hK' => c_k_wrM hsL (d + 1) (by omega) (-1) s K' hI (by decide) (hK' _ _ ⟨rfl, rfl⟩)) (fun zz t h => by have := h.1; omega) (fun zz t h => by rw [h.1, h.2]; exact hN c2))
  · exact sx_meth (wr := true) (n := 400) hsL (e := eX11_size) rfl (w_k_sizeN (Q := fun _ _ _ => False) hI p0 (fun K' hK' => c8_hasSol hsL (d + 1) (by omega) s K' hI (fun q1 q2 => absurd ⟨q1, q2⟩ c) (fun _ => hK')) (hN (fun q => c ⟨q.1, q.2.1⟩)))
theorem w_k_letterN {CALL : sx_Ca} {sL : Nat} {sx : Nat → Int32} {Q : Nat → sx_L → sx_S → Prop} {R : Int → sx_S → Prop} {s : sx_S} {a0 a1 : Int} (hI : cx_I s) (p0 : -2147483648 ≤ a0 ∧ a0 ≤ 2147483647) (p1 : -2147483648 ≤ a1 ∧ a1 ≤ 2147483647) (hc : ∀ K : Int → sx_S → Prop, K 0 s → CALL 147 [.inr (.inl 0)] s K) (hK : R (-1) s) : sx_wp true sL sx eX11_letter CALL [] Q R 400 0 (sx_argsF 0 [.inr (.inl 0), .inl a0, .inl a1]) [] s := by
  repeat' (first | (with_reducible (rintro _ rfl)) | (with_reducible intro _) | (refine And.intro ?_ ?_) | (refine hc _ ?_) | (fail))
  all_goals (try dsimp only at *)
  all_goals (first | trivial | assumption | omega | (exfalso; omega) | skip)
theorem w_k_letterY {CALL : sx_Ca} {sL : Nat} {sx : Nat → Int32} {Q : Nat → sx_L → sx_S → Prop} {R : Int → sx_S → Prop} {s : sx_S} {a0 a1 r : Int} {PW PB : Int → sx_S → Prop} (hI : cx_I s) (p0 : -2147483648 ≤ a0 ∧ a0 ≤ 2147483647) (p1 : -2147483648 ≤ a1 ∧ a1 ≤ 2147483647) (rr : -2147483648 ≤ r ∧ r ≤ 2147483647) (hc : ∀ K : Int → sx_S → Prop, K 1 s → CALL 147 [.inr (.inl 0)] s K) (hr : ∀ K : Int → sx_S → Prop, K r s → CALL 17 [.inr (.inl 18), .inl a0] s K) (hw : ∀ K : Int → sx_S → Prop, (∀ z t, PW z t → K z t) → CALL 123 [.inr (.inl 55), .inl r] s K) (hz : ∀ z t, PW z t → -2147483648 ≤ z ∧ z ≤ 2147483647) (hb : ∀ z t, PW z t → 0 ≤ z → ∀ K : Int → sx_S → Prop, (∀ y, PB y t → K y t) → CALL 122 [.inr (.inl 55), .inl a1] t K) (hy : ∀ y t, PB y t → -2147483648 ≤ y ∧ y ≤ 2147483647) (hK1 : ∀ z t, PW z t → z < 0 → R (-1) t) (hK2 : ∀ z t y, PW z t → 0 ≤ z → PB y t → R y t) : sx_wp true sL sx eX11_letter CALL [] Q R 400 0 (sx_argsF 0 [.inr (.inl 0), .inl a0, .inl a1]) [] s := by
  repeat' (first | (with_reducible (rintro _ rfl)) | (with_reducible intro _) | (refine And.intro ?_ ?_) | (refine hc _ ?_) | (refine hr _ ?_) | (refine hw _ (fun zz1 zt1 zp1 => ?_); have zr1 := hz zz1 zt1 zp1) | (refine hb zz1 zt1 zp1 (by omega) _ (fun zy1 zp2 => ?_); have zr2 := hy zy1 zt1 zp2) | (fail))
  all_goals (try dsimp only at *)
  all_goals (first | trivial | assumption | omega | (exfalso; omega) | (exact hK1 _ _ zp1 (by omega)) | (exact hK2 _ _ _ zp1 (by omega) zp2) | skip)
theorem c_k_letter {sL : Nat} {sx : Nat → Int32} (hsL : sL ≤ 3072) (d : Nat) (hd : 26 ≤ d) : ∀ (a0 a1 : Int) (s : sx_S) (K PW : Int → sx_S → Prop), cx_I s → (-2147483648 ≤ a0 ∧ a0 ≤ 2147483647) → (-2147483648 ≤ a1 ∧ a1 ≤ 2147483647) → (∀ zz t, PW zz t → cx_I t ∧ -1 ≤ zz ∧ zz ≤ 4000) → (s.1 0 2 ≠ 0 ∧ s.1 0 3 = 0 ∧ 0 ≤ a0 ∧ a0 < s.1 22 2 → ∀ d', 22 ≤ d' → ∀ K' : Int → sx_S → Prop, (∀ zz t, PW zz t → K' zz t) → sx_C sL sx d' 123 [.inr (.inl 55), .inl (s.2.1 25 a0.toNat)] s K') → ((s.1 0 2 ≠ 0 ∧ s.1 0 3 = 0 ∧ 0 ≤ a0 ∧ a0 < s.1 22 2) → ∀ zz t, PW zz t → (zz < 0 → K (-1) t) ∧ (0 ≤ zz → 0 ≤ a1 → a1 < t.1 55 10 → a1 < 4000 → K (t.2.1 65 a1.toNat) t) ∧ (0 ≤ zz → (a1 < 0 ∨ t.1 55 10 ≤ a1 ∨ 4000 ≤ a1) → K (-1) t)) → (¬ (s.1 0 2 ≠ 0 ∧ s.1 0 3 = 0 ∧ 0 ≤ a0 ∧ a0 < s.1 22 2) → K (-1) s) → sx_C sL sx d 144 [.inr (.inl 0), .inl a0, .inl a1] s K := by
  intro a0 a1 s K PW hI p0 p1 hz hw hK hN
  have r22 := hI.fld 22 2 (by decide) rfl
  have ra := hI.arr 25 (by decide) rfl a0.toNat
  obtain ⟨d, rfl⟩ : ∃ e, d = e + 2 := ⟨d - 2, by omega⟩
  by_cases c : s.1 0 2 ≠ 0 ∧ s.1 0 3 = 0
  · by_cases c2 : s.1 0 2 ≠ 0 ∧ s.1 0 3 = 0 ∧ 0 ≤ a0 ∧ a0 < s.1 22 2
    · refine sx_meth (wr := true) (n := 400) hsL (e := eX11_letter) rfl (w_k_letterY (Q := fun _ _ _ => False) (r := (s.2.1 25 a0.toNat)) (PW := PW) (PB := fun y t => (-2147483648 ≤ y ∧ y ≤ 2147483647) ∧ ((0 ≤ a1 ∧ a1 < t.1 55 10 ∧ a1 < 4000 ∧ y = t.2.1 65 a1.toNat) ∨ ((a1 < 0 ∨ t.1 55 10 ≤ a1 ∨ 4000 ≤ a1) ∧ y = -1))) hI p0 p1 ra (fun K' hK' => c8_hasSol hsL (d + 1) (by omega) s K' hI (fun _ _ => hK') (fun q => absurd q (by omega))) (fun K' hK' => c_dw_ur hsL (d + 1) (by omega) a0 s K' hI (by omega) hK') (fun K' hK' => hw c2 (d + 1) (by omega) K' hK') (fun zz t h => by have := hz zz t h; omega) (fun zz t h h0 K' hK' => ?_) (fun y t h => h.1) (fun zz t h h0 => (hK c2 zz t h).1 h0) (fun zz t y h h0 hy => ?_))
      · have hIt := (hz zz t h).1
        have r65 := hIt.arr 65 (by decide) rfl a1.toNat
        exact c_k_byte hsL (d + 1) (by omega) a1 t K' hIt p1 (fun q1 q2 q3 => hK' _ ⟨r65, Or.inl ⟨q1, q2, q3, rfl⟩⟩) (fun q => hK' _ ⟨by decide, Or.inr ⟨q, rfl⟩⟩)
      · obtain ⟨_, k2, k3⟩ := hK c2 zz t h
        rcases hy.2 with ⟨q1, q2, q3, q4⟩ | ⟨q1, q2⟩
        · rw [q4]
          exact k2 h0 q1 q2 q3
        · rw [q2]
          exact k3 h0 q1
    · refine sx_meth (wr := true) (n := 400) hsL (e := eX11_letter) rfl (w_k_letterY (Q := fun _ _ _ => False) (r := -1) (PW := fun zz t => zz = -1 ∧ t = s) (PB := fun _ _ => False) hI p0 p1 (by decide) (fun K' hK' => c8_hasSol hsL (d + 1) (by omega) s K' hI (fun _ _ => hK') (fun q => absurd q (by omega))) (fun K' hK' => c_k_urN hsL (d + 1) (by omega) a0 s K' hI p0 (by omega) hK') (fun K' hK' => c_k_wrM hsL (d + 1) (by omega) (-1) s K' hI (by decide) (hK' _ _ ⟨rfl, rfl⟩)) (fun zz t h => by have := h.1; omega) (fun zz t h h0 => by have := h.1; omega) (fun y t h => h.elim) (fun zz t h _ => by rw [h.2]; exact hN c2) (fun zz t y h h0 hy => hy.elim))
  · exact sx_meth (wr := true) (n := 400) hsL (e := eX11_letter) rfl (w_k_letterN (Q := fun _ _ _ => False) hI p0 p1 (fun K' hK' => c8_hasSol hsL (d + 1) (by omega) s K' hI (fun q1 q2 => absurd ⟨q1, q2⟩ c) (fun _ => hK')) (hN (fun q => c ⟨q.1, q.2.1⟩)))
theorem w_k_sideN {CALL : sx_Ca} {sL : Nat} {sx : Nat → Int32} {Q : Nat → sx_L → sx_S → Prop} {R : Int → sx_S → Prop} {s : sx_S} {a0 a1 : Int} (hI : cx_I s) (p0 : -2147483648 ≤ a0 ∧ a0 ≤ 2147483647) (p1 : -2147483648 ≤ a1 ∧ a1 ≤ 2147483647) (hc : ∀ K : Int → sx_S → Prop, K 0 s → CALL 147 [.inr (.inl 0)] s K) (hK : R (-1) s) : sx_wp true sL sx eX11_side CALL [] Q R 400 0 (sx_argsF 0 [.inr (.inl 0), .inl a0, .inl a1]) [] s := by
  repeat' (first | (with_reducible (rintro _ rfl)) | (with_reducible intro _) | (refine And.intro ?_ ?_) | (refine hc _ ?_) | (fail))
  all_goals (try dsimp only at *)
  all_goals (first | trivial | assumption | omega | (exfalso; omega) | skip)
theorem w_k_sideY {CALL : sx_Ca} {sL : Nat} {sx : Nat → Int32} {Q : Nat → sx_L → sx_S → Prop} {R : Int → sx_S → Prop} {s : sx_S} {a0 a1 r : Int} {PW : Int → sx_S → Prop} (hI : cx_I s) (p0 : -2147483648 ≤ a0 ∧ a0 ≤ 2147483647) (p1 : -2147483648 ≤ a1 ∧ a1 ≤ 2147483647) (rr : -2147483648 ≤ r ∧ r ≤ 2147483647) (hc : ∀ K : Int → sx_S → Prop, K 1 s → CALL 147 [.inr (.inl 0)] s K) (hr : ∀ K : Int → sx_S → Prop, K r s → CALL 18 [.inr (.inl 18), .inl a0, .inl a1] s K) (hw : ∀ K : Int → sx_S → Prop, (∀ z t, PW z t → K z t) → CALL 123 [.inr (.inl 55), .inl r] s K) (hz : ∀ z t, PW z t → -2147483648 ≤ z ∧ z ≤ 2147483647) (hK : ∀ z t, PW z t → R z t) : sx_wp true sL sx eX11_side CALL [] Q R 400 0 (sx_argsF 0 [.inr (.inl 0), .inl a0, .inl a1]) [] s := by
  repeat' (first | (with_reducible (rintro _ rfl)) | (with_reducible intro _) | (refine And.intro ?_ ?_) | (refine hc _ ?_) | (refine hr _ ?_) | (refine hw _ (fun zz1 zt1 zp1 => ?_); have zr1 := hz zz1 zt1 zp1) | (fail))
  all_goals (try dsimp only at *)
  all_goals (first | trivial | assumption | omega | (exfalso; omega) | (exact hK _ _ zp1) | skip)
theorem c_k_side {sL : Nat} {sx : Nat → Int32} (hsL : sL ≤ 3072) (d : Nat) (hd : 26 ≤ d) : ∀ (a0 a1 : Int) (s : sx_S) (K PW : Int → sx_S → Prop), cx_I s → (-2147483648 ≤ a0 ∧ a0 ≤ 2147483647) → (-2147483648 ≤ a1 ∧ a1 ≤ 2147483647) → (∀ zz t, PW zz t → -1 ≤ zz ∧ zz ≤ 4000) → (s.1 0 2 ≠ 0 ∧ s.1 0 3 = 0 ∧ (0 ≤ a0 ∧ a0 < s.1 18 10) ∧ 0 ≤ a1 ∧ a1 ≤ 1 → ∀ d', 22 ≤ d' → ∀ K' : Int → sx_S → Prop, (∀ zz t, PW zz t → K' zz t) → sx_C sL sx d' 123 [.inr (.inl 55), .inl (s.2.1 26 (2 * a0 + a1).toNat)] s K') → ((s.1 0 2 ≠ 0 ∧ s.1 0 3 = 0 ∧ (0 ≤ a0 ∧ a0 < s.1 18 10) ∧ 0 ≤ a1 ∧ a1 ≤ 1) → ∀ zz t, PW zz t → K zz t) → (¬ (s.1 0 2 ≠ 0 ∧ s.1 0 3 = 0 ∧ (0 ≤ a0 ∧ a0 < s.1 18 10) ∧ 0 ≤ a1 ∧ a1 ≤ 1) → K (-1) s) → sx_C sL sx d 145 [.inr (.inl 0), .inl a0, .inl a1] s K := by
  intro a0 a1 s K PW hI p0 p1 hz hw hK hN
  have r22 := hI.fld 22 2 (by decide) rfl
  have ra := hI.arr 26 (by decide) rfl (2 * a0 + a1).toNat
  obtain ⟨d, rfl⟩ : ∃ e, d = e + 2 := ⟨d - 2, by omega⟩
  by_cases c : s.1 0 2 ≠ 0 ∧ s.1 0 3 = 0
  · by_cases c2 : s.1 0 2 ≠ 0 ∧ s.1 0 3 = 0 ∧ (0 ≤ a0 ∧ a0 < s.1 18 10) ∧ 0 ≤ a1 ∧ a1 ≤ 1
    · exact sx_meth (wr := true) (n := 400) hsL (e := eX11_side) rfl (w_k_sideY (Q := fun _ _ _ => False) (r := (s.2.1 26 (2 * a0 + a1).toNat)) (PW := PW) hI p0 p1 ra (fun K' hK' => c8_hasSol hsL (d + 1) (by omega) s K' hI (fun _ _ => hK') (fun q => absurd q (by omega))) (fun K' hK' => c_dv_rt hsL (d + 1) (by omega) a0 a1 s K' hI (by omega) (by omega) hK') (fun K' hK' => hw c2 (d + 1) (by omega) K' hK') (fun zz t h => by have := hz zz t h; omega) (hK c2))
    · exact sx_meth (wr := true) (n := 400) hsL (e := eX11_side) rfl (w_k_sideY (Q := fun _ _ _ => False) (r := -1) (PW := fun zz t => zz = -1 ∧ t = s) hI p0 p1 (by decide) (fun K' hK' => c8_hasSol hsL (d + 1) (by omega) s K' hI (fun _ _ => hK') (fun q => absurd q (by omega))) (fun K' hK' => c_k_rtN hsL (d + 1) (by omega) a0 a1 s K' hI p0 p1 (by omega) hK') (fun K' hK' => c_k_wrM hsL (d + 1) (by omega) (-1) s K' hI (by decide) (hK' _ _ ⟨rfl, rfl⟩)) (fun zz t h => by have := h.1; omega) (fun zz t h => by rw [h.1, h.2]; exact hN c2))
  · exact sx_meth (wr := true) (n := 400) hsL (e := eX11_side) rfl (w_k_sideN (Q := fun _ _ _ => False) hI p0 p1 (fun K' hK' => c8_hasSol hsL (d + 1) (by omega) s K' hI (fun q1 q2 => absurd ⟨q1, q2⟩ c) (fun _ => hK')) (hN (fun q => c ⟨q.1, q.2.1⟩)))
theorem w_k_sideLetterN {CALL : sx_Ca} {sL : Nat} {sx : Nat → Int32} {Q : Nat → sx_L → sx_S → Prop} {R : Int → sx_S → Prop} {s : sx_S} {a0 a1 a2 : Int} (hI : cx_I s) (p0 : -2147483648 ≤ a0 ∧ a0 ≤ 2147483647) (p1 : -2147483648 ≤ a1 ∧ a1 ≤ 2147483647) (p2 : -2147483648 ≤ a2 ∧ a2 ≤ 2147483647) (hc : ∀ K : Int → sx_S → Prop, K 0 s → CALL 147 [.inr (.inl 0)] s K) (hK : R (-1) s) : sx_wp true sL sx eX11_sideLetter CALL [] Q R 400 0 (sx_argsF 0 [.inr (.inl 0), .inl a0, .inl a1, .inl a2]) [] s := by
  repeat' (first | (with_reducible (rintro _ rfl)) | (with_reducible intro _) | (refine And.intro ?_ ?_) | (refine hc _ ?_) | (fail))
  all_goals (try dsimp only at *)
  all_goals (first | trivial | assumption | omega | (exfalso; omega) | skip)
theorem w_k_sideLetterY {CALL : sx_Ca} {sL : Nat} {sx : Nat → Int32} {Q : Nat → sx_L → sx_S → Prop} {R : Int → sx_S → Prop} {s : sx_S} {a0 a1 a2 r : Int} {PW PB : Int → sx_S → Prop} (hI : cx_I s) (p0 : -2147483648 ≤ a0 ∧ a0 ≤ 2147483647) (p1 : -2147483648 ≤ a1 ∧ a1 ≤ 2147483647) (p2 : -2147483648 ≤ a2 ∧ a2 ≤ 2147483647) (rr : -2147483648 ≤ r ∧ r ≤ 2147483647) (hc : ∀ K : Int → sx_S → Prop, K 1 s → CALL 147 [.inr (.inl 0)] s K) (hr : ∀ K : Int → sx_S → Prop, K r s → CALL 18 [.inr (.inl 18), .inl a0, .inl a1] s K) (hw : ∀ K : Int → sx_S → Prop, (∀ z t, PW z t → K z t) → CALL 123 [.inr (.inl 55), .inl r] s K) (hz : ∀ z t, PW z t → -2147483648 ≤ z ∧ z ≤ 2147483647) (hb : ∀ z t, PW z t → 0 ≤ z → ∀ K : Int → sx_S → Prop, (∀ y, PB y t → K y t) → CALL 122 [.inr (.inl 55), .inl a2] t K) (hy : ∀ y t, PB y t → -2147483648 ≤ y ∧ y ≤ 2147483647) (hK1 : ∀ z t, PW z t → z < 0 → R (-1) t) (hK2 : ∀ z t y, PW z t → 0 ≤ z → PB y t → R y t) : sx_wp true sL sx eX11_sideLetter CALL [] Q R 400 0 (sx_argsF 0 [.inr (.inl 0), .inl a0, .inl a1, .inl a2]) [] s := by
  repeat' (first | (with_reducible (rintro _ rfl)) | (with_reducible intro _) | (refine And.intro ?_ ?_) | (refine hc _ ?_) | (refine hr _ ?_) | (refine hw _ (fun zz1 zt1 zp1 => ?_); have zr1 := hz zz1 zt1 zp1) | (refine hb zz1 zt1 zp1 (by omega) _ (fun zy1 zp2 => ?_); have zr2 := hy zy1 zt1 zp2) | (fail))
  all_goals (try dsimp only at *)
  all_goals (first | trivial | assumption | omega | (exfalso; omega) | (exact hK1 _ _ zp1 (by omega)) | (exact hK2 _ _ _ zp1 (by omega) zp2) | skip)
theorem c_k_sideLetter {sL : Nat} {sx : Nat → Int32} (hsL : sL ≤ 3072) (d : Nat) (hd : 26 ≤ d) : ∀ (a0 a1 a2 : Int) (s : sx_S) (K PW : Int → sx_S → Prop), cx_I s → (-2147483648 ≤ a0 ∧ a0 ≤ 2147483647) → (-2147483648 ≤ a1 ∧ a1 ≤ 2147483647) → (-2147483648 ≤ a2 ∧ a2 ≤ 2147483647) → (∀ zz t, PW zz t → cx_I t ∧ -1 ≤ zz ∧ zz ≤ 4000) → (s.1 0 2 ≠ 0 ∧ s.1 0 3 = 0 ∧ (0 ≤ a0 ∧ a0 < s.1 18 10) ∧ 0 ≤ a1 ∧ a1 ≤ 1 → ∀ d', 22 ≤ d' → ∀ K' : Int → sx_S → Prop, (∀ zz t, PW zz t → K' zz t) → sx_C sL sx d' 123 [.inr (.inl 55), .inl (s.2.1 26 (2 * a0 + a1).toNat)] s K') → ((s.1 0 2 ≠ 0 ∧ s.1 0 3 = 0 ∧ (0 ≤ a0 ∧ a0 < s.1 18 10) ∧ 0 ≤ a1 ∧ a1 ≤ 1) → ∀ zz t, PW zz t → (zz < 0 → K (-1) t) ∧ (0 ≤ zz → 0 ≤ a2 → a2 < t.1 55 10 → a2 < 4000 → K (t.2.1 65 a2.toNat) t) ∧ (0 ≤ zz → (a2 < 0 ∨ t.1 55 10 ≤ a2 ∨ 4000 ≤ a2) → K (-1) t)) → (¬ (s.1 0 2 ≠ 0 ∧ s.1 0 3 = 0 ∧ (0 ≤ a0 ∧ a0 < s.1 18 10) ∧ 0 ≤ a1 ∧ a1 ≤ 1) → K (-1) s) → sx_C sL sx d 146 [.inr (.inl 0), .inl a0, .inl a1, .inl a2] s K := by
  intro a0 a1 a2 s K PW hI p0 p1 p2 hz hw hK hN
  have r22 := hI.fld 22 2 (by decide) rfl
  have ra := hI.arr 26 (by decide) rfl (2 * a0 + a1).toNat
  obtain ⟨d, rfl⟩ : ∃ e, d = e + 2 := ⟨d - 2, by omega⟩
  by_cases c : s.1 0 2 ≠ 0 ∧ s.1 0 3 = 0
  · by_cases c2 : s.1 0 2 ≠ 0 ∧ s.1 0 3 = 0 ∧ (0 ≤ a0 ∧ a0 < s.1 18 10) ∧ 0 ≤ a1 ∧ a1 ≤ 1
    · refine sx_meth (wr := true) (n := 400) hsL (e := eX11_sideLetter) rfl (w_k_sideLetterY (Q := fun _ _ _ => False) (r := (s.2.1 26 (2 * a0 + a1).toNat)) (PW := PW) (PB := fun y t => (-2147483648 ≤ y ∧ y ≤ 2147483647) ∧ ((0 ≤ a2 ∧ a2 < t.1 55 10 ∧ a2 < 4000 ∧ y = t.2.1 65 a2.toNat) ∨ ((a2 < 0 ∨ t.1 55 10 ≤ a2 ∨ 4000 ≤ a2) ∧ y = -1))) hI p0 p1 p2 ra (fun K' hK' => c8_hasSol hsL (d + 1) (by omega) s K' hI (fun _ _ => hK') (fun q => absurd q (by omega))) (fun K' hK' => c_dv_rt hsL (d + 1) (by omega) a0 a1 s K' hI (by omega) (by omega) hK') (fun K' hK' => hw c2 (d + 1) (by omega) K' hK') (fun zz t h => by have := hz zz t h; omega) (fun zz t h h0 K' hK' => ?_) (fun y t h => h.1) (fun zz t h h0 => (hK c2 zz t h).1 h0) (fun zz t y h h0 hy => ?_))
      · have hIt := (hz zz t h).1
        have r65 := hIt.arr 65 (by decide) rfl a2.toNat
        exact c_k_byte hsL (d + 1) (by omega) a2 t K' hIt p2 (fun q1 q2 q3 => hK' _ ⟨r65, Or.inl ⟨q1, q2, q3, rfl⟩⟩) (fun q => hK' _ ⟨by decide, Or.inr ⟨q, rfl⟩⟩)
      · obtain ⟨_, k2, k3⟩ := hK c2 zz t h
        rcases hy.2 with ⟨q1, q2, q3, q4⟩ | ⟨q1, q2⟩
        · rw [q4]
          exact k2 h0 q1 q2 q3
        · rw [q2]
          exact k3 h0 q1
    · refine sx_meth (wr := true) (n := 400) hsL (e := eX11_sideLetter) rfl (w_k_sideLetterY (Q := fun _ _ _ => False) (r := -1) (PW := fun zz t => zz = -1 ∧ t = s) (PB := fun _ _ => False) hI p0 p1 p2 (by decide) (fun K' hK' => c8_hasSol hsL (d + 1) (by omega) s K' hI (fun _ _ => hK') (fun q => absurd q (by omega))) (fun K' hK' => c_k_rtN hsL (d + 1) (by omega) a0 a1 s K' hI p0 p1 (by omega) hK') (fun K' hK' => c_k_wrM hsL (d + 1) (by omega) (-1) s K' hI (by decide) (hK' _ _ ⟨rfl, rfl⟩)) (fun zz t h => by have := h.1; omega) (fun zz t h h0 => by have := h.1; omega) (fun y t h => h.elim) (fun zz t h _ => by rw [h.2]; exact hN c2) (fun zz t y h h0 hy => hy.elim))
  · exact sx_meth (wr := true) (n := 400) hsL (e := eX11_sideLetter) rfl (w_k_sideLetterN (Q := fun _ _ _ => False) hI p0 p1 p2 (fun K' hK' => c8_hasSol hsL (d + 1) (by omega) s K' hI (fun q1 q2 => absurd ⟨q1, q2⟩ c) (fun _ => hK')) (hN (fun q => c ⟨q.1, q.2.1⟩)))
end
section
/-! ===== two values that are alike, of one type, are written alike ===== -/
theorem wt_ct {p : Int → Bool} : ∀ {l l' : List Int}, l.Nodup → (∀ x ∈ l, x ∈ l') → l.countP p ≤ l'.countP p
  | [], _, _, _ => Nat.zero_le _
  | x :: t, l', hn, hs => by
    obtain ⟨l1, l2, e⟩ := List.append_of_mem (hs x List.mem_cons_self)
    have hn' := List.nodup_cons.mp hn
    have ih := wt_ct (p := p) (l := t) (l' := l1 ++ l2) hn'.2 (fun y hy => by
      have := hs y (List.mem_cons_of_mem _ hy)
      rw [e] at this
      rcases List.mem_append.mp this with h | h
      · exact List.mem_append_left _ h
      · rcases List.mem_cons.mp h with rfl | h
        · exact absurd hy hn'.1
        · exact List.mem_append_right _ h)
    rw [List.countP_append] at ih
    rw [e, List.countP_append, List.countP_cons, List.countP_cons]
    generalize (if p x = true then 1 else 0) = z
    omega
theorem wt_cl : ∀ l : List Int, l.countP (fun _ => true) = l.length
  | [] => rfl
  | x :: l => by
    rw [List.countP_cons, wt_cl l, if_pos rfl]
    rfl
theorem wt_rk (v : Int) (xs : List Int) : ∀ n, n ≤ xs.length → rf_sum (fun i => if xs.getD i (-1) < v then 1 else 0) n = (xs.take n).countP (fun y => decide (y < v))
  | 0, _ => rfl
  | n + 1, h => by
    have hn : n < xs.length := by omega
    rw [rf_sum_s, wt_rk v xs n (by omega), List.take_succ, List.getElem?_eq_getElem hn, List.countP_append]
    congr 1
    show (if xs.getD n (-1) < v then 1 else 0) = List.countP (fun y => decide (y < v)) [xs[n]]
    rw [List.countP_cons, vx_gD hn]
    by_cases c : xs[n] < v
    · rw [if_pos c, if_pos (decide_eq_true c)]
      rfl
    · rw [if_neg c, if_neg (by rw [decide_eq_true_eq]; exact c)]
      rfl
theorem wt_rnk (xs : List Int) (k : Nat) : rf_rnk (fun i => xs.getD i (-1)) xs.length k = xs.countP (fun y => decide (y < xs.getD k (-1))) := by
  have := wt_rk (xs.getD k (-1)) xs xs.length (Nat.le_refl _)
  rw [List.take_length] at this
  exact this
def wt_inj (r : List Int) : Prop := ∀ p q : Nat, p < r.length → q < r.length → r.getD p (-1) = r.getD q (-1) → p = q
theorem wt_nd {r : List Int} (h : wt_inj r) : r.Nodup := List.pairwise_iff_getElem.mpr (fun i j hi hj hij e => by
  have := h i j hi hj (by rw [vx_gD hi, vx_gD hj]; exact e)
  omega)
theorem wt_gm {f : Int → Int} {l : List Int} {k : Nat} (hk : k < l.length) : (l.map f).getD k (-1) = f l[k] := by
  rw [List.getD_eq_getElem?_getD, List.getElem?_map, List.getElem?_eq_getElem hk]
  rfl
theorem wt_in {r : List Int} {k : Nat} (h : 0 ≤ r.getD k (-1)) : ∃ hk : k < r.length, r.getD k (-1) = r[k] := by
  by_cases c : k < r.length
  · exact ⟨c, vx_gD c⟩
  · exfalso
    rw [List.getD_eq_getElem?_getD, List.getElem?_eq_none (by omega)] at h
    exact absurd h (by decide)
theorem wt_od {r r' xs xs' I J : List Int} (hr' : r' = I.map (fun i => r.getD i.toNat (-1))) (hr : r = J.map (fun i => r'.getD i.toNat (-1))) (hx' : xs' = I.map (fun i => xs.getD i.toNat (-1))) (hx : xs = J.map (fun i => xs'.getD i.toNat (-1))) (n4 : r.length ≤ 4) (d : wt_inj r) (d' : wt_inj r') (p0 : ∀ y ∈ r, 0 ≤ y) (p0' : ∀ y ∈ r', 0 ≤ y) : xs'.length = xs.length ∧ ∀ p, p < xs.length → (we_od r p < xs.length ∧ we_od r' p < xs'.length) ∧ xs.getD (we_od r p) (-1) = xs'.getD (we_od r' p) (-1) := by
  have lx : xs.length = r.length := by
    have e1 : xs.length = J.length := by rw [hx, List.length_map]
    have e2 : r.length = J.length := by rw [hr, List.length_map]
    omega
  have lI : xs'.length = I.length := by rw [hx', List.length_map]
  have lI' : r'.length = I.length := by rw [hr', List.length_map]
  have sub' : ∀ y ∈ r', y ∈ r := fun y hy => by
    have y0 := p0' y hy
    rw [hr'] at hy
    obtain ⟨i, _, hi⟩ := List.mem_map.mp hy
    rw [← hi] at y0 ⊢
    obtain ⟨hk, e⟩ := wt_in y0
    rw [e]
    exact List.getElem_mem hk
  have sub : ∀ y ∈ r, y ∈ r' := fun y hy => by
    have y0 := p0 y hy
    rw [hr] at hy
    obtain ⟨i, _, hi⟩ := List.mem_map.mp hy
    rw [← hi] at y0 ⊢
    obtain ⟨hk, e⟩ := wt_in y0
    rw [e]
    exact List.getElem_mem hk
  have nd := wt_nd d
  have nd' := wt_nd d'
  have len : r'.length = r.length := by
    have a1 := wt_ct (p := fun _ => true) nd sub
    have a2 := wt_ct (p := fun _ => true) nd' sub'
    rw [wt_cl, wt_cl] at a1 a2
    omega
  refine ⟨by omega, fun p hp => ?_⟩
  obtain ⟨k, k1, k2⟩ := rf_rnk_sur (D := fun i => r.getD i (-1)) (n := r.length) n4 d (r := p) (by omega)
  have ek : we_od r p = k := by
    rw [← k2]
    exact we_od_at d k1
  obtain ⟨j, j1, j2⟩ := List.getElem_of_mem (sub r[k] (List.getElem_mem k1))
  have rj : rf_rnk (fun i => r'.getD i (-1)) r'.length j = p := by
    rw [wt_rnk, vx_gD j1, j2, ← k2, wt_rnk, vx_gD k1]
    have a1 := wt_ct (p := fun y => decide (y < r[k])) nd sub
    have a2 := wt_ct (p := fun y => decide (y < r[k])) nd' sub'
    omega
  have ej : we_od r' p = j := by
    rw [← rj]
    exact we_od_at d' j1
  have jI : j < I.length := by omega
  have e1 : r'.getD j (-1) = r.getD (I[j]).toNat (-1) := by
    rw [hr']
    exact wt_gm jI
  have e2 : xs'.getD j (-1) = xs.getD (I[j]).toNat (-1) := by
    rw [hx']
    exact wt_gm jI
  rw [vx_gD j1, j2] at e1
  have y0 : 0 ≤ r.getD (I[j]).toNat (-1) := by
    rw [← e1]
    exact p0 _ (List.getElem_mem k1)
  obtain ⟨hk, e3⟩ := wt_in y0
  have e4 : (I[j]).toNat = k := d _ _ hk k1 (by rw [← e1, vx_gD k1])
  rw [ek, ej, e2, e4]
  exact ⟨⟨by omega, by omega⟩, rfl⟩
/-- a value has a type: Γ: the types of what is bound, by levels -/
def wt (tc : Int → rf_T) (nC : Int) (ht : Int → List rf_T) : rf_N → ((Int → rf_T) → Int → rf_T → Prop) × ((Int → rf_T) → Int → rf_T → Prop)
  | .leaf => (fun _ _ _ => False, fun _ _ u => u = rf_b)
  | .inner _ q _ F X => (fun Γ L t => (q.1 = 0 ∧ vx_on F ∧ ∃ a B, t = rf_a a B ∧ (wt tc nC ht F).1 (fun l => if l = L then a else Γ l) (L + 1) B) ∨ ((q.1 = 1 ∧ q.2 < 0) ∧ t = rf_b ∧ ∀ (i : Nat) y, (dz_hs F)[i]? = some y → (ht q.2).getD i .leaf = Γ y ∧ 0 ≤ y) ∨ (q.1 = 1 ∧ (0 ≤ q.2 ∧ q.2 < nC) ∧ t = rf_b ∧ (wt tc nC ht F).2 Γ L (tc q.2)) ∨ (q.1 = 2 ∧ t = rf_b ∧ (wt tc nC ht F).2 Γ L (Γ q.2)), fun Γ L u => ∃ A B, u = rf_a A B ∧ ((q.1 = 0 ∧ vx_on F ∧ ∃ a B, A = rf_a a B ∧ (wt tc nC ht F).1 (fun l => if l = L then a else Γ l) (L + 1) B) ∨ ((q.1 = 1 ∧ q.2 < 0) ∧ A = rf_b ∧ ∀ (i : Nat) y, (dz_hs F)[i]? = some y → (ht q.2).getD i .leaf = Γ y ∧ 0 ≤ y) ∨ (q.1 = 1 ∧ (0 ≤ q.2 ∧ q.2 < nC) ∧ A = rf_b ∧ (wt tc nC ht F).2 Γ L (tc q.2)) ∨ (q.1 = 2 ∧ A = rf_b ∧ (wt tc nC ht F).2 Γ L (Γ q.2))) ∧ (wt tc nC ht X).2 Γ L B)
theorem wt_2 {tc : Int → rf_T} {nC : Int} {ht : Int → List rf_T} {j : Nat} {q : Int × Int} {u : Unit} {F X : rf_N} {Γ : Int → rf_T} {L : Int} {w : rf_T} : (wt tc nC ht (.inner j q u F X)).2 Γ L w ↔ ∃ A B, w = rf_a A B ∧ (wt tc nC ht (.inner j q u F X)).1 Γ L A ∧ (wt tc nC ht X).2 Γ L B := Iff.rfl
theorem wt_a_inj {a B a' B' : rf_T} (h : rf_a a B = rf_a a' B') : a = a' ∧ B = B' := by
  injection h with _ _ _ h1 h2
  exact ⟨h1, h2⟩
theorem wz_rl_len {π π' : Int → Int} {I J : Int → List Int} : ∀ {A B : rf_N}, wz_rl π π' I J A B → rf_len A = rf_len B
  | .leaf, .leaf, _ => rfl
  | .leaf, .inner _ _ _ _ _, h => h.elim
  | .inner _ _ _ _ _, .leaf, h => h.elim
  | .inner _ _ _ _ X, .inner _ _ _ _ X', h => by
    have := wz_rl_len (wz_rl_in.mp h).2
    show rf_len X + 1 = rf_len X' + 1
    omega
section
variable {nm : Int → List Int} {hf : Int → List Int → Int → we_A (List Int) → we_A (List Int)} {q : Int × Int} {F : rf_N} {W : (Int → we_A (List Int) → we_A (List Int)) × (Int → we_A (List Int) → we_A (List Int))} {L : Int} {w : we_A (List Int)}
theorem wt_ol (h0 : q.1 = 0) : we_o wk_pb wb_dg nm hf q F W L w = W.1 (L + 1) (w.1, w.2 ++ (92 :: 120 :: (wb_dg L ++ [46]))) := by
  unfold we_o
  rw [if_pos h0, wk_bs]
theorem wt_oc (h0 : q.1 = 1) (h1 : ¬ (q.1 = 1 ∧ q.2 < 0)) : we_o wk_pb wb_dg nm hf q F W L w = W.2 L (w.1, w.2 ++ nm q.2) := by
  unfold we_o
  rw [if_neg (by omega), if_neg h1, if_pos h0, wk_bs]
theorem wt_ov (h0 : q.1 = 2) : we_o wk_pb wb_dg nm hf q F W L w = W.2 L (w.1, w.2 ++ (120 :: wb_dg q.2)) := by
  unfold we_o
  rw [if_neg (by omega), if_neg (fun z => by omega), if_neg (by omega), wk_bs]
end
/-- numbered rows -/
def wt_rows (a : List (Int × List Int)) : Prop := (a.map Prod.fst).Nodup ∧ ∀ p ∈ a, p.2.length ≤ 4 ∧ wt_inj p.2 ∧ ∀ y ∈ p.2, 0 ≤ y
theorem wt_eq {π π' : Int → Int} {I J : Int → List Int} {nm nm' : Int → List Int} {ht ht' : Int → List rf_T} {tc : Int → rf_T} {nC : Int} {a b : List (Int × List Int)} (hab : wz_Rl (wz_P π π' I J) a b) (ra : wt_rows a) (rb : wt_rows b) (hnm : ∀ h, 0 ≤ h → h < nC → nm h = nm' h) : ∀ {A B : rf_N}, wz_rl π π' I J A B → (∀ x, wz_oc x A → x ∈ a.map Prod.fst) → (∀ (Γ : Int → rf_T) (L : Int) (t : rf_T), (wt tc nC ht A).1 Γ L t → (wt tc nC ht' B).1 Γ L t → ∀ o, ∃ o', (we_w wk_pb wb_dg nm (we_hf wk_pb wb_dg nm ht) A).1 L (a, o) = (a, o') ∧ (we_w wk_pb wb_dg nm' (we_hf wk_pb wb_dg nm' ht') B).1 L (b, o) = (b, o')) ∧ (∀ (Γ : Int → rf_T) (L : Int) (t : rf_T), (wt tc nC ht A).2 Γ L t → (wt tc nC ht' B).2 Γ L t → ∀ o, ∃ o', (we_w wk_pb wb_dg nm (we_hf wk_pb wb_dg nm ht) A).2 L (a, o) = (a, o') ∧ (we_w wk_pb wb_dg nm' (we_hf wk_pb wb_dg nm' ht') B).2 L (b, o) = (b, o'))
  | .leaf, .leaf, _, _ => ⟨fun _ _ _ h => h.elim, fun _ _ _ _ _ o => ⟨o, rfl, rfl⟩⟩
  | .leaf, .inner _ _ _ _ _, h, _ => h.elim
  | .inner _ _ _ _ _, .leaf, h, _ => h.elim
  | .inner j q u F X, .inner j' q' u' F' X', h, ho => by
    obtain ⟨h1, h2⟩ := wz_rl_in.mp h
    have hX := wt_eq (ht := ht) (ht' := ht') (tc := tc) hab ra rb hnm h2 (fun x hx => ho x (wz_oc_in.mpr (Or.inr hx)))
    -- the number of ARGs, and what is written of the head
    have one : (rf_len F = rf_len F' ∧ (q.1 = 0 ↔ q'.1 = 0)) ∧ ∀ (Γ : Int → rf_T) (L : Int) (t : rf_T), (wt tc nC ht (.inner j q u F X)).1 Γ L t → (wt tc nC ht' (.inner j' q' u' F' X')).1 Γ L t → ∀ o, ∃ o', we_o wk_pb wb_dg nm (we_hf wk_pb wb_dg nm ht) q F (we_w wk_pb wb_dg nm (we_hf wk_pb wb_dg nm ht) F) L (a, o) = (a, o') ∧ we_o wk_pb wb_dg nm' (we_hf wk_pb wb_dg nm' ht') q' F' (we_w wk_pb wb_dg nm' (we_hf wk_pb wb_dg nm' ht') F') L (b, o) = (b, o') := by
      by_cases c : q.1 = 1 ∧ q.2 < 0
      · rw [if_pos c] at h1
        obtain ⟨⟨c1, c2⟩, ⟨c3, c4⟩, c5, c6⟩ := h1
        have hin := ho q.2 (wz_oc_in.mpr (Or.inl (by rw [if_pos c])))
        obtain ⟨p, hp, ep⟩ := List.mem_map.mp hin
        obtain ⟨i, hi⟩ := List.mem_iff_getElem?.mp hp
        obtain ⟨zzp, hi', ⟨e1, e2⟩, e3, e4⟩ := wz_Rl_get hab hi
        have ep' : zzp.1 = q'.2 := by rw [e1, ep, ← c3]
        have hpm' : zzp ∈ b := List.mem_of_getElem? hi'
        obtain ⟨a1, a2, a3⟩ := ra.2 p hp
        obtain ⟨b1, b2, b3⟩ := rb.2 zzp hpm'
        rw [ep] at e3
        rw [ep'] at e4
        obtain ⟨l1, l2⟩ := wt_od e3 e4 c5 c6 a1 a2 b2 a3 b3
        have hi2 : a[i]? = some (q.2, p.2) := by rw [hi, ← ep]
        have hi2' : b[i]? = some (q'.2, zzp.2) := by rw [hi', ← ep']
        have w1 : we_rw a q.2 = p.2 := we_rw_at ra.1 hi2
        have w2 : we_rw b q'.2 = zzp.2 := we_rw_at rb.1 hi2'
        have n1 : vx_ii (a.map Prod.fst) q.2 = (i : Int) := we_ii_at ra.1 hi2
        have n2 : vx_ii (b.map Prod.fst) q'.2 = (i : Int) := we_ii_at rb.1 hi2'
        have hin' : q'.2 ∈ b.map Prod.fst := List.mem_map.mpr ⟨zzp, hpm', ep'⟩
        have d1 : wz_ad a q.2 (dz_hs F) = a := by
          unfold wz_ad
          rw [if_pos hin]
        have d2 : wz_ad b q'.2 (dz_hs F') = b := by
          unfold wz_ad
          rw [if_pos hin']
        have lF : rf_len F = rf_len F' := by
          rw [dz_hs_len, dz_hs_len] at l1
          exact l1.symm
        refine ⟨⟨lF, by omega⟩, fun Γ L t ht1 ht2 o => ?_⟩
        have g1 : ∀ (i : Nat) y, (dz_hs F)[i]? = some y → (ht q.2).getD i .leaf = Γ y ∧ 0 ≤ y := by
          rcases ht1 with ⟨z, _⟩ | ⟨_, _, z⟩ | ⟨_, z, _⟩ | ⟨z, _⟩
          · omega
          · exact z
          · omega
          · omega
        have g2 : ∀ (i : Nat) y, (dz_hs F')[i]? = some y → (ht' q'.2).getD i .leaf = Γ y ∧ 0 ≤ y := by
          rcases ht2 with ⟨z, _⟩ | ⟨_, _, z⟩ | ⟨_, z, _⟩ | ⟨z, _⟩
          · omega
          · exact z
          · omega
          · omega
        have key : ∀ x, x < (dz_hs F).length → (ht q.2).getD (we_od p.2 x) .leaf = (ht' q'.2).getD (we_od zzp.2 x) .leaf ∧ (dz_hs F).getD (we_od p.2 x) (-1) = (dz_hs F').getD (we_od zzp.2 x) (-1) := fun x hx => by
          obtain ⟨⟨m1, m2⟩, m3⟩ := l2 x hx
          refine ⟨?_, m3⟩
          rw [(g1 _ _ (List.getElem?_eq_getElem m1)).1, (g2 _ _ (List.getElem?_eq_getElem m2)).1, ← vx_gD m1, ← vx_gD m2, m3]
        have t1 : (List.range (dz_hs F).length).map (fun x => (ht q.2).getD (we_od p.2 x) .leaf) = (List.range (dz_hs F').length).map (fun x => (ht' q'.2).getD (we_od zzp.2 x) .leaf) := by
          rw [l1]
          exact List.map_congr_left (fun x hx => (key x (List.mem_range.mp hx)).1)
        have t2 : (List.range (dz_hs F).length).map (fun x => (dz_hs F).getD (we_od p.2 x) (-1)) = (List.range (dz_hs F').length).map (fun x => (dz_hs F').getD (we_od zzp.2 x) (-1)) := by
          rw [l1]
          exact List.map_congr_left (fun x hx => (key x (List.mem_range.mp hx)).2)
        unfold we_o
        rw [if_neg (by omega), if_pos c, if_neg (by omega), if_pos ⟨c1, c2⟩, wk_hf, wk_hf]
        dsimp only
        rw [d1, d2, w1, w2, n1, n2, t1, t2]
        exact ⟨_, rfl, rfl⟩
      · rw [if_neg c] at h1
        obtain ⟨eq, hF'⟩ := h1
        subst eq
        have hF := wt_eq (ht := ht) (ht' := ht') (tc := tc) hab ra rb hnm hF' (fun x hx => ho x (wz_oc_in.mpr (Or.inl (by rw [if_neg c]; exact hx))))
        refine ⟨⟨wz_rl_len hF', Iff.rfl⟩, fun Γ L t ht1 ht2 o => ?_⟩
        rcases ht1 with ⟨z, _, a1, B1, e1, y1⟩ | ⟨z, _⟩ | ⟨z1, z2, e1, y1⟩ | ⟨z1, e1, y1⟩
        · rcases ht2 with ⟨_, _, a2, B2, e2, y2⟩ | ⟨z2, _⟩ | ⟨z2, _⟩ | ⟨z2, _⟩
          · obtain ⟨f1, f2⟩ := wt_a_inj (e1.symm.trans e2)
            subst f1 f2
            obtain ⟨o', r1, r2⟩ := hF.1 _ _ _ y1 y2 (o ++ (92 :: 120 :: (wb_dg L ++ [46])))
            rw [wt_ol z, wt_ol z]
            exact ⟨o', r1, r2⟩
          · omega
          · omega
          · omega
        · exact absurd z c
        · rcases ht2 with ⟨w, _⟩ | ⟨w, _⟩ | ⟨_, _, _, y2⟩ | ⟨w, _⟩
          · omega
          · exact absurd w c
          · obtain ⟨o', r1, r2⟩ := hF.2 _ _ _ y1 y2 (o ++ nm q'.2)
            rw [wt_oc z1 c, wt_oc z1 c, ← hnm q'.2 z2.1 z2.2]
            exact ⟨o', r1, r2⟩
          · omega
        · rcases ht2 with ⟨w, _⟩ | ⟨w, _⟩ | ⟨w, _⟩ | ⟨_, _, y2⟩
          · omega
          · omega
          · omega
          · obtain ⟨o', r1, r2⟩ := hF.2 _ _ _ y1 y2 (o ++ (120 :: wb_dg q'.2))
            rw [wt_ov z1, wt_ov z1]
            exact ⟨o', r1, r2⟩
    obtain ⟨⟨lF, q0⟩, one⟩ := one
    refine ⟨one, fun Γ L t ht1 ht2 o => ?_⟩
    obtain ⟨A1, B1, e1, y1, y2⟩ := wt_2.mp ht1
    obtain ⟨A2, B2, e2, z1, z2⟩ := wt_2.mp ht2
    obtain ⟨f1, f2⟩ := wt_a_inj (e1.symm.trans e2)
    subst f1 f2
    rw [we_w_2, we_w_2, wk_bs, wk_bs]
    dsimp only
    by_cases c : q.1 = 0 ∨ rf_len F ≠ 0
    · have c' : q'.1 = 0 ∨ rf_len F' ≠ 0 := by
        rw [← lF, ← q0]
        exact c
      unfold we_g
      rw [if_pos c, if_pos c']
      simp only [wk_bs]
      obtain ⟨o1, r1, r2⟩ := one Γ L _ y1 z1 (o ++ [32] ++ [40])
      rw [r1, r2]
      exact hX.2 Γ L _ y2 z2 (o1 ++ [41])
    · have c' : ¬ (q'.1 = 0 ∨ rf_len F' ≠ 0) := by
        rw [← lF, ← q0]
        exact c
      unfold we_g
      rw [if_neg c, if_neg c']
      obtain ⟨o1, r1, r2⟩ := one Γ L _ y1 z1 (o ++ [32])
      rw [r1, r2]
      exact hX.2 Γ L _ y2 z2 o1
end
