/-! ===== the desk: what stands before an ARG; a head: a variable's number, a constant's name ===== -/
theorem w_k_nl {CALL : sx_Ca} {sL : Nat} {sx : Nat → Int32} {Q : Nat → sx_L → sx_S → Prop} {R : Int → sx_S → Prop} {s : sx_S} {t0 : Int} (hI : cx_I s) (p0 : 0 ≤ t0 ∧ t0 < s.1 2 5) (r1 : 0 ≤ s.2.1 5 t0.toNat ∧ s.2.1 5 t0.toNat ≤ 240) (r2 : 0 ≤ s.2.1 6 t0.toNat ∧ s.2.1 6 t0.toNat ≤ 240) (hK : R (s.2.1 6 t0.toNat - s.2.1 5 t0.toNat) s) : sx_wp true sL sx eX8_nameLength CALL [] Q R 400 0 (sx_argsF 0 [.inr (.inl 2), .inl t0]) [] s := by
  have f := hI.fld 2 5 (by decide) rfl
  have zz1 : sx_w true (s.2.1 6 t0.toNat - s.2.1 5 t0.toNat) = s.2.1 6 t0.toNat - s.2.1 5 t0.toNat := px_wid (by omega) (by omega)
  rw [← zz1] at hK
  repeat' (first | (with_reducible (rintro _ rfl)) | (with_reducible intro _) | (refine And.intro ?_ ?_) | (fail))
  all_goals (try dsimp only at *)
  all_goals (first | trivial | assumption | omega | (exfalso; omega) | skip)
theorem c_k_nl {sL : Nat} {sx : Nat → Int32} (hsL : sL ≤ 3072) (d : Nat) (hd : 2 ≤ d) : ∀ (t0 : Int) (s : sx_S) (K : Int → sx_S → Prop), cx_I s → (0 ≤ t0 ∧ t0 < s.1 2 5) → (0 ≤ s.2.1 5 t0.toNat ∧ s.2.1 5 t0.toNat ≤ 240) → (0 ≤ s.2.1 6 t0.toNat ∧ s.2.1 6 t0.toNat ≤ 240) → K (s.2.1 6 t0.toNat - s.2.1 5 t0.toNat) s → sx_C sL sx d 103 [.inr (.inl 2), .inl t0] s K := by
  intro t0 s K hI p0 r1 r2 hK
  obtain ⟨d, rfl⟩ : ∃ e, d = e + 2 := ⟨d - 2, by omega⟩
  exact sx_meth (wr := true) (n := 400) hsL (e := eX8_nameLength) rfl (w_k_nl (Q := fun _ _ _ => False) hI p0 r1 r2 hK)
theorem w_k_nb {CALL : sx_Ca} {sL : Nat} {sx : Nat → Int32} {Q : Nat → sx_L → sx_S → Prop} {R : Int → sx_S → Prop} {s : sx_S} {t0 t1 : Int} (hI : cx_I s) (p0 : 0 ≤ t0 ∧ t0 < s.1 2 5) (p1 : 0 ≤ t1 ∧ t1 ≤ 240) (r1 : 0 ≤ s.2.1 5 t0.toNat ∧ s.2.1 5 t0.toNat + t1 < s.1 2 4) (hK : R (s.2.1 3 (s.2.1 5 t0.toNat + t1).toNat) s) : sx_wp true sL sx eX8_nameByte CALL [] Q R 400 0 (sx_argsF 0 [.inr (.inl 2), .inl t0, .inl t1]) [] s := by
  have f := hI.fld 2 5 (by decide) rfl
  have f4 := hI.fld 2 4 (by decide) rfl
  have zz1 : sx_w true (s.2.1 5 t0.toNat + t1) = s.2.1 5 t0.toNat + t1 := px_wid (by omega) (by omega)
  rw [← zz1] at hK
  repeat' (first | (with_reducible (rintro _ rfl)) | (with_reducible intro _) | (refine And.intro ?_ ?_) | (fail))
  all_goals (try dsimp only at *)
  all_goals (first | trivial | assumption | omega | (exfalso; omega) | skip)
theorem c_k_nb {sL : Nat} {sx : Nat → Int32} (hsL : sL ≤ 3072) (d : Nat) (hd : 2 ≤ d) : ∀ (t0 t1 : Int) (s : sx_S) (K : Int → sx_S → Prop), cx_I s → (0 ≤ t0 ∧ t0 < s.1 2 5) → (0 ≤ t1 ∧ t1 ≤ 240) → (0 ≤ s.2.1 5 t0.toNat ∧ s.2.1 5 t0.toNat + t1 < s.1 2 4) → K (s.2.1 3 (s.2.1 5 t0.toNat + t1).toNat) s → sx_C sL sx d 104 [.inr (.inl 2), .inl t0, .inl t1] s K := by
  intro t0 t1 s K hI p0 p1 r1 hK
  obtain ⟨d, rfl⟩ : ∃ e, d = e + 2 := ⟨d - 2, by omega⟩
  exact sx_meth (wr := true) (n := 400) hsL (e := eX8_nameByte) rfl (w_k_nb (Q := fun _ _ _ => False) hI p0 p1 r1 hK)
theorem w_k_nn {CALL : sx_Ca} {sL : Nat} {sx : Nat → Int32} {Q : Nat → sx_L → sx_S → Prop} {R : Int → sx_S → Prop} {s : sx_S} {a0 : Int} (hI : cx_I s) (p0 : 0 ≤ a0 ∧ a0 < s.1 19 2) (hK : R (s.2.1 20 a0.toNat) s) : sx_wp true sL sx eX4_name CALL [] Q R 400 0 (sx_argsF 0 [.inr (.inl 19), .inl a0]) [] s := by
  have f := hI.fld 19 2 (by decide) rfl
  repeat' (first | (with_reducible (rintro _ rfl)) | (with_reducible intro _) | (refine And.intro ?_ ?_) | (fail))
  all_goals (try dsimp only at *)
  all_goals (first | trivial | assumption | omega | (exfalso; omega) | skip)
theorem c_k_nn {sL : Nat} {sx : Nat → Int32} (hsL : sL ≤ 3072) (d : Nat) (hd : 2 ≤ d) : ∀ (a0 : Int) (s : sx_S) (K : Int → sx_S → Prop), cx_I s → (0 ≤ a0 ∧ a0 < s.1 19 2) → K (s.2.1 20 a0.toNat) s → sx_C sL sx d 55 [.inr (.inl 19), .inl a0] s K := by
  intro a0 s K hI p0 hK
  obtain ⟨d, rfl⟩ : ∃ e, d = e + 2 := ⟨d - 2, by omega⟩
  exact sx_meth (wr := true) (n := 400) hsL (e := eX4_name) rfl (w_k_nn (Q := fun _ _ _ => False) hI p0 hK)
/-- the name of the constant h lies in the text -/
def wk_Nm (s : sx_S) (h : Int) : Prop := True → (0 ≤ h ∧ h < s.1 19 2) ∧ (0 ≤ s.2.1 20 h.toNat ∧ s.2.1 20 h.toNat < s.1 2 5) ∧ 0 ≤ s.2.1 5 (s.2.1 20 h.toNat).toNat ∧ (0 ≤ s.2.1 6 (s.2.1 20 h.toNat).toNat - s.2.1 5 (s.2.1 20 h.toNat).toNat ∧ s.2.1 6 (s.2.1 20 h.toNat).toNat - s.2.1 5 (s.2.1 20 h.toNat).toNat ≤ 8) ∧ s.2.1 6 (s.2.1 20 h.toNat).toNat ≤ s.1 2 4 ∧ s.1 2 4 ≤ 240
/-- its bytes -/
def wk_nm (s : sx_S) (h : Int) : List Int := (List.range (s.2.1 6 (s.2.1 20 h.toNat).toNat - s.2.1 5 (s.2.1 20 h.toNat).toNat).toNat).map (fun j : Nat => s.2.1 3 (s.2.1 5 (s.2.1 20 h.toNat).toNat + (j : Int)).toNat)
theorem wk_Nm_c {s t : sx_S} {h : Int} (hF : cx_F [(55, 55), (65, 65)] s t) (hN : wk_Nm s h) : wk_Nm t h := fun _ => by
  rw [(hF.same 2 rfl).1, (hF.same 19 rfl).1, (hF.same 20 rfl).2, (hF.same 5 rfl).2, (hF.same 6 rfl).2]
  exact hN trivial
theorem wk_nm_c {s t : sx_S} {h : Int} (hF : cx_F [(55, 55), (65, 65)] s t) : wk_nm t h = wk_nm s h := by
  unfold wk_nm
  rw [(hF.same 20 rfl).2, (hF.same 5 rfl).2, (hF.same 6 rfl).2, (hF.same 3 rfl).2]
theorem w_k_cl {CALL : sx_Ca} {sL : Nat} {sx : Nat → Int32} {Q : Nat → sx_L → sx_S → Prop} {R : Int → sx_S → Prop} {s : sx_S} {a0 tk n : Int} (rk : -2147483648 ≤ tk ∧ tk ≤ 2147483647) (rn : -2147483648 ≤ n ∧ n ≤ 2147483647) (h1 : ∀ K : Int → sx_S → Prop, K tk s → CALL 55 [.inr (.inl 19), .inl a0] s K) (h2 : ∀ K : Int → sx_S → Prop, K n s → CALL 103 [.inr (.inl 2), .inl tk] s K) (hK : R n s) : sx_wp true sL sx eX1_constantLength CALL [] Q R 400 0 (sx_argsF 0 [.inr (.inl 18), .inl a0]) [] s := by
  repeat' (first | (with_reducible intro _) | (refine And.intro ?_ ?_) | (refine h1 _ ?_) | (refine h2 _ ?_) | (fail))
  all_goals (try dsimp only at *)
  all_goals (first | trivial | assumption | omega | (exfalso; omega) | skip)
theorem c_k_cl {sL : Nat} {sx : Nat → Int32} (hsL : sL ≤ 3072) (d : Nat) (hd : 3 ≤ d) : ∀ (a0 : Int) (s : sx_S) (K : Int → sx_S → Prop), cx_I s → wk_Nm s a0 → K ((wk_nm s a0).length : Int) s → sx_C sL sx d 19 [.inr (.inl 18), .inl a0] s K := by
  intro a0 s K hI hN hK
  obtain ⟨n1, n2, n3, n4, n5, n6⟩ := hN trivial
  have f5 := hI.fld 2 5 (by decide) rfl
  have e : ((wk_nm s a0).length : Int) = s.2.1 6 (s.2.1 20 a0.toNat).toNat - s.2.1 5 (s.2.1 20 a0.toNat).toNat := by
    unfold wk_nm
    rw [List.length_map, List.length_range]
    omega
  rw [e] at hK
  obtain ⟨d, rfl⟩ : ∃ e, d = e + 2 := ⟨d - 2, by omega⟩
  exact sx_meth (wr := true) (n := 400) hsL (e := eX1_constantLength) rfl (w_k_cl (Q := fun _ _ _ => False) (by omega) (by omega) (fun K' hK' => c_k_nn hsL (d + 1) (by omega) a0 s K' hI n1 hK') (fun K' hK' => c_k_nl hsL (d + 1) (by omega) _ s K' hI n2 (by omega) (by omega) hK') hK)
theorem w_k_cb {CALL : sx_Ca} {sL : Nat} {sx : Nat → Int32} {Q : Nat → sx_L → sx_S → Prop} {R : Int → sx_S → Prop} {s : sx_S} {a0 a1 tk n : Int} (p1 : 0 ≤ a1 ∧ a1 ≤ 240) (rk : -2147483648 ≤ tk ∧ tk ≤ 2147483647) (rn : -2147483648 ≤ n ∧ n ≤ 2147483647) (h1 : ∀ K : Int → sx_S → Prop, K tk s → CALL 55 [.inr (.inl 19), .inl a0] s K) (h2 : ∀ K : Int → sx_S → Prop, K n s → CALL 104 [.inr (.inl 2), .inl tk, .inl a1] s K) (hK : R n s) : sx_wp true sL sx eX1_constantByte CALL [] Q R 400 0 (sx_argsF 0 [.inr (.inl 18), .inl a0, .inl a1]) [] s := by
  repeat' (first | (with_reducible intro _) | (refine And.intro ?_ ?_) | (refine h1 _ ?_) | (refine h2 _ ?_) | (fail))
  all_goals (try dsimp only at *)
  all_goals (first | trivial | assumption | omega | (exfalso; omega) | skip)
theorem c_k_cb {sL : Nat} {sx : Nat → Int32} (hsL : sL ≤ 3072) (d : Nat) (hd : 3 ≤ d) : ∀ (a0 : Int) (i : Nat) (s : sx_S) (K : Int → sx_S → Prop), cx_I s → wk_Nm s a0 → i < (wk_nm s a0).length → (∀ b, (wk_nm s a0)[i]? = some b → K b s) → sx_C sL sx d 20 [.inr (.inl 18), .inl a0, .inl (i : Int)] s K := by
  intro a0 i s K hI hN hi hK
  obtain ⟨n1, n2, n3, n4, n5, n6⟩ := hN trivial
  have f5 := hI.fld 2 5 (by decide) rfl
  have hi' := hi
  unfold wk_nm at hi'
  rw [List.length_map, List.length_range] at hi'
  have r3 := hI.arr 3 (by decide) rfl (s.2.1 5 (s.2.1 20 a0.toNat).toNat + (i : Int)).toNat
  have hK0 := hK (s.2.1 3 (s.2.1 5 (s.2.1 20 a0.toNat).toNat + (i : Int)).toNat) (by
    unfold wk_nm
    rw [List.getElem?_map, List.getElem?_range hi']
    rfl)
  obtain ⟨d, rfl⟩ : ∃ e, d = e + 2 := ⟨d - 2, by omega⟩
  exact sx_meth (wr := true) (n := 400) hsL (e := eX1_constantByte) rfl (w_k_cb (Q := fun _ _ _ => False) (by omega) (by omega) (by omega) (fun K' hK' => c_k_nn hsL (d + 1) (by omega) a0 s K' hI n1 hK') (fun K' hK' => c_k_nb hsL (d + 1) (by omega) _ _ s K' hI n2 (by omega) (by omega) hK') hK0)
theorem w_k_hv {CALL : sx_Ca} {sL : Nat} {sx : Nat → Int32} {Q : Nat → sx_L → sx_S → Prop} {R : Int → sx_S → Prop} {s : sx_S} {a0 a1 h lv : Int} {P1 : sx_S → Prop} {P2 : sx_S → sx_S → Prop} (rh : -2147483648 ≤ h ∧ h ≤ 2147483647) (rl : -2147483648 ≤ lv ∧ lv ≤ 2147483647) (hH : ∀ K : Int → sx_S → Prop, K h s → CALL 92 [.inr (.inl 11), .inl a0] s K) (hD : ∀ K : Int → sx_S → Prop, K 2 s → CALL 91 [.inr (.inl 11), .inl a0] s K) (h1 : ∀ K : Int → sx_S → Prop, (∀ z t, P1 t → K z t) → CALL 135 [.inr (.inl 55), .inl 120] s K) (hO : ∀ t, P1 t → ∀ K : Int → sx_S → Prop, K lv t → CALL 47 [.inr (.inl 29), .inl a1, .inl h] t K) (h2 : ∀ t, P1 t → ∀ K : Int → sx_S → Prop, (∀ z t2, P2 t t2 → K z t2) → CALL 134 [.inr (.inl 55), .inl lv] t K) (hK : ∀ t t2, P1 t → P2 t t2 → R 0 t2) : sx_wp true sL sx eX10_putHead CALL [(44, [0, 3, 4])] Q R 400 0 (sx_argsF 0 [.inr (.inl 55), .inl a0, .inl a1]) [] s := by
  repeat' (first | (with_reducible (rintro _ rfl)) | (with_reducible intro _) | (refine And.intro ?_ ?_) | (refine hH _ ?_) | (refine hD _ ?_) | (refine h1 _ (fun zz1 zt1 zp1 => ?_)) | (refine hO zt1 zp1 _ ?_) | (refine h2 zt1 zp1 _ (fun zz2 zt2 zp2 => ?_)) | (fail))
  all_goals (try dsimp only at *)
  all_goals (first | trivial | assumption | omega | (exfalso; omega) | (exact hK _ _ zp1 zp2) | skip)
theorem w_k_hc {CALL : sx_Ca} {sL : Nat} {sx : Nat → Int32} {Q : Nat → sx_L → sx_S → Prop} {R : Int → sx_S → Prop} {s : sx_S} {a0 a1 h kd : Int} (rh : -2147483648 ≤ h ∧ h ≤ 2147483647) (rd : 0 ≤ kd ∧ kd ≤ 9) (hk : kd ≠ 2) (hH : ∀ K : Int → sx_S → Prop, K h s → CALL 92 [.inr (.inl 11), .inl a0] s K) (hD : ∀ K : Int → sx_S → Prop, K kd s → CALL 91 [.inr (.inl 11), .inl a0] s K) (hQ : Q 44 [(0, .inr (.inl 55)), (3, .inl h), (4, .inl 0)] s) : sx_wp true sL sx eX10_putHead CALL [(44, [0, 3, 4])] Q R 400 0 (sx_argsF 0 [.inr (.inl 55), .inl a0, .inl a1]) [] s := by
  repeat' (first | (with_reducible intro _) | (refine And.intro ?_ ?_) | (refine hH _ ?_) | (refine hD _ ?_) | (fail))
  all_goals (try dsimp only at *)
  all_goals (first | trivial | assumption | omega | (exfalso; omega) | skip)
theorem w_k_hc44n {CALL : sx_Ca} {sL : Nat} {sx : Nat → Int32} {Q : Nat → sx_L → sx_S → Prop} {R : Int → sx_S → Prop} {s : sx_S} {h x4 n : Int} (rh : -2147483648 ≤ h ∧ h ≤ 2147483647) (p4 : 0 ≤ x4 ∧ x4 ≤ 8) (pn : 0 ≤ n ∧ n ≤ x4) (hL : ∀ K : Int → sx_S → Prop, K n s → CALL 19 [.inr (.inl 18), .inl h] s K) (hK : R 0 s) : sx_wp true sL sx eX10_putHead CALL [(44, [0, 3, 4])] Q R 400 44 [(0, .inr (.inl 55)), (3, .inl h), (4, .inl x4)] [] s := by
  repeat' (first | (with_reducible intro _) | (refine And.intro ?_ ?_) | (refine hL _ ?_) | (fail))
  all_goals (try dsimp only at *)
  all_goals (first | trivial | assumption | omega | (exfalso; omega) | skip)
theorem w_k_hc44y {CALL : sx_Ca} {sL : Nat} {sx : Nat → Int32} {Q : Nat → sx_L → sx_S → Prop} {R : Int → sx_S → Prop} {s : sx_S} {h x4 n b : Int} {P1 : sx_S → Prop} (rh : -2147483648 ≤ h ∧ h ≤ 2147483647) (rb : -2147483648 ≤ b ∧ b ≤ 2147483647) (p4 : 0 ≤ x4 ∧ x4 < n) (pn : 0 ≤ n ∧ n ≤ 8) (hL : ∀ K : Int → sx_S → Prop, K n s → CALL 19 [.inr (.inl 18), .inl h] s K) (hB : ∀ K : Int → sx_S → Prop, K b s → CALL 20 [.inr (.inl 18), .inl h, .inl x4] s K) (h1 : ∀ K : Int → sx_S → Prop, (∀ z t, P1 t → K z t) → CALL 135 [.inr (.inl 55), .inl b] s K) (hQ : ∀ t, P1 t → Q 44 [(0, .inr (.inl 55)), (3, .inl h), (4, .inl (x4 + 1))] t) : sx_wp true sL sx eX10_putHead CALL [(44, [0, 3, 4])] Q R 400 44 [(0, .inr (.inl 55)), (3, .inl h), (4, .inl x4)] [] s := by
  have zz6 : sx_w true (x4 + 1) = x4 + 1 := px_wid (by omega) (by omega)
  rw [← zz6] at hQ
  repeat' (first | (with_reducible intro _) | (refine And.intro ?_ ?_) | (refine hL _ ?_) | (refine hB _ ?_) | (refine h1 _ (fun zz1 zt1 zp1 => ?_)) | (fail))
  all_goals (try dsimp only at *)
  all_goals (first | trivial | assumption | omega | (exfalso; omega) | (exact hQ _ zp1) | skip)
theorem c_k_hv {sL : Nat} {sx : Nat → Int32} (hsL : sL ≤ 3072) (d : Nat) (hd : 5 ≤ d) : ∀ (a0 a1 hi h : Int) (c : List (Int × Int)) (s : sx_S) (K : Int → sx_S → Prop), cx_I s → (0 ≤ a0 ∧ a0 < s.1 11 6) → s.2.1 12 a0.toNat = 2 → s.2.1 13 a0.toNat = h → dv_c s c hi a1 → hi ≤ s.1 29 3 → (0 ≤ dv_lk c h ∧ dv_lk c h ≤ 99990000) → s.1 55 10 ≤ 900000000 → (∀ z t, wk_PT s t (120 :: wb_dg (dv_lk c h)) → K z t) → sx_C sL sx d 130 [.inr (.inl 55), .inl a0, .inl a1] s K := by
  intro a0 a1 hi h c s K hI p0 hk hh hc hhi hl h10 hK
  have f6 := hI.fld 11 6 (by decide) rfl
  have rh := hI.arr 13 (by decide) rfl a0.toNat
  rw [hh] at rh
  obtain ⟨d, rfl⟩ : ∃ e, d = e + 2 := ⟨d - 2, by omega⟩
  refine sx_methL (wr := true) (n := 400) (n' := 400) (stop := [(44, [0, 3, 4])]) (fun n pc ls u => False) hsL (e := eX10_putHead) rfl ?_ ?_
  · refine w_k_hv (h := h) (lv := dv_lk c h) (P1 := fun t => wk_PT s t [120]) (P2 := fun t t2 => wk_PT t t2 (wb_dg (dv_lk c h))) (by omega) (by omega) (fun K' hK' => ?_) (fun K' hK' => ?_) (fun K' hK' => c_k_put hsL (d + 1) (by omega) 120 s K' hI (by omega) (by omega) hK') (fun t ht K' hK' => ?_) (fun t ht K' hK' => ?_) (fun t t2 ht ht2 => hK 0 t2 (wk_PT_t ht ht2))
    · refine c_dz_head hsL (d + 1) (by omega) a0 s K' hI (by omega) (fun z z1 _ => ?_)
      rw [z1 p0.1 p0.2, hh]
      exact hK'
    · refine c_dz_kind hsL (d + 1) (by omega) a0 s K' hI (by omega) (fun z z1 _ => ?_)
      rw [z1 p0.1 p0.2, hk]
      exact hK'
    · have F' := ht.2.1
      exact c_dv_of hsL (d + 1) (by omega) _ _ _ c t K' ht.1 (by omega) (dv_ch_fr (fun j _ => by rw [(F'.same 30 rfl).2, (F'.same 31 rfl).2, (F'.same 32 rfl).2]; exact ⟨rfl, rfl, rfl⟩) hc) (by rw [(F'.same 29 rfl).1]; exact hhi) hK'
    · have e1 : t.1 55 10 = s.1 55 10 + 1 := ht.2.2.2.1
      exact c_k_putN hsL (d + 1) (by omega) _ t K' ht.1 (by omega) (by omega) hK'
  · rintro n pc ls u hf
    exact hf.elim
theorem c_k_hc {sL : Nat} {sx : Nat → Int32} (hsL : sL ≤ 3072) (d : Nat) (hd : 5 ≤ d) : ∀ (a0 a1 h : Int) (s : sx_S) (K : Int → sx_S → Prop), cx_I s → (0 ≤ a0 ∧ a0 < s.1 11 6) → (-2147483648 ≤ a1 ∧ a1 ≤ 2147483647) → (0 ≤ s.2.1 12 a0.toNat ∧ s.2.1 12 a0.toNat ≤ 9) → s.2.1 12 a0.toNat ≠ 2 → s.2.1 13 a0.toNat = h → wk_Nm s h → s.1 55 10 ≤ 900000000 → (∀ z t, wk_PT s t (wk_nm s h) → K z t) → sx_C sL sx d 130 [.inr (.inl 55), .inl a0, .inl a1] s K := by
  intro a0 a1 h s K hI p0 p1 rd hk hh hN h10 hK
  have f6 := hI.fld 11 6 (by decide) rfl
  have rh := hI.arr 13 (by decide) rfl a0.toNat
  rw [hh] at rh
  have nl : (wk_nm s h).length ≤ 8 := by
    obtain ⟨n1, n2, n3, n4, n5, n6⟩ := hN trivial
    unfold wk_nm
    rw [List.length_map, List.length_range]
    omega
  obtain ⟨d, rfl⟩ : ∃ e, d = e + 2 := ⟨d - 2, by omega⟩
  refine sx_methL (wr := true) (n := 400) (n' := 400) (stop := [(44, [0, 3, 4])]) (fun n pc ls u => pc = 44 ∧ ∃ x4 : Nat, ls = [(0, .inr (.inl 55)), (3, .inl h), (4, .inl (x4 : Int))] ∧ x4 ≤ (wk_nm s h).length ∧ wk_PT s u ((wk_nm s h).take x4) ∧ n = (wk_nm s h).length - x4) hsL (e := eX10_putHead) rfl ?_ ?_
  · refine w_k_hc (h := h) (kd := s.2.1 12 a0.toNat) (by omega) rd hk (fun K' hK' => ?_) (fun K' hK' => ?_) ⟨_, rfl, 0, rfl, by omega, ?_, rfl⟩
    · refine c_dz_head hsL (d + 1) (by omega) a0 s K' hI (by omega) (fun z z1 _ => ?_)
      rw [z1 p0.1 p0.2, hh]
      exact hK'
    · refine c_dz_kind hsL (d + 1) (by omega) a0 s K' hI (by omega) (fun z z1 _ => ?_)
      rw [z1 p0.1 p0.2]
      exact hK'
    · rw [List.take_zero]
      exact wk_PT_0 hI
  · rintro n pc ls u ⟨rfl, x4, rfl, h4, hu, rfl⟩
    have F' := hu.2.1
    have hNu := wk_Nm_c F' hN
    have en : wk_nm u h = wk_nm s h := wk_nm_c F'
    have hLu : ∀ K' : Int → sx_S → Prop, K' ((wk_nm s h).length : Int) u → sx_C sL sx (d + 1) 19 [.inr (.inl 18), .inl h] u K' := fun K' hK' => by
      rw [← en] at hK'
      exact c_k_cl hsL (d + 1) (by omega) h u K' hu.1 hNu hK'
    have hu10 := hu.2.2.2.1
    rw [List.length_take] at hu10
    by_cases hx : x4 < (wk_nm s h).length
    · obtain ⟨b, hb⟩ : ∃ b, (wk_nm s h)[x4]? = some b := ⟨_, List.getElem?_eq_getElem hx⟩
      have rb : -2147483648 ≤ b ∧ b ≤ 2147483647 := by
        have hb' := hb
        unfold wk_nm at hb' hx
        rw [List.length_map, List.length_range] at hx
        rw [List.getElem?_map, List.getElem?_range hx] at hb'
        have r3 := hI.arr 3 (by decide) rfl (s.2.1 5 (s.2.1 20 h.toNat).toNat + (x4 : Int)).toNat
        have e := Option.some.inj hb'
        dsimp only at e
        omega
      refine w_k_hc44y (n := ((wk_nm s h).length : Int)) (b := b) (P1 := fun t => wk_PT u t [b]) (by omega) rb (by omega) (by omega) hLu (fun K' hK' => ?_) (fun K' hK' => c_k_put hsL (d + 1) (by omega) b u K' hu.1 rb (by omega) hK') (fun t ht => ?_)
      · refine c_k_cb hsL (d + 1) (by omega) h x4 u K' hu.1 hNu (by rw [en]; exact hx) (fun b' hb' => ?_)
        rw [en, hb] at hb'
        rw [← Option.some.inj hb']
        exact hK'
      · refine ⟨(wk_nm s h).length - (x4 + 1), by omega, rfl, x4 + 1, by rw [show ((x4 + 1 : Nat) : Int) = (x4 : Int) + 1 by omega], by omega, ?_, rfl⟩
        rw [List.take_add_one, hb]
        exact wk_PT_t hu ht
    · refine w_k_hc44n (n := ((wk_nm s h).length : Int)) (by omega) (by omega) (by omega) hLu (hK 0 u ?_)
      rw [List.take_of_length_le (by omega)] at hu
      exact hu
theorem w_k_baN {CALL : sx_Ca} {sL : Nat} {sx : Nat → Int32} {Q : Nat → sx_L → sx_S → Prop} {R : Int → sx_S → Prop} {s : sx_S} {a0 kd ar : Int} {P1 : sx_S → Prop} (rd : 0 < kd ∧ kd ≤ 9) (ra : ar = 0) (h1 : ∀ K : Int → sx_S → Prop, (∀ z t, P1 t → K z t) → CALL 135 [.inr (.inl 55), .inl 32] s K) (hD : ∀ t, P1 t → ∀ K : Int → sx_S → Prop, K kd t → CALL 91 [.inr (.inl 11), .inl a0] t K) (hA : ∀ t, P1 t → ∀ K : Int → sx_S → Prop, K ar t → CALL 94 [.inr (.inl 11), .inl a0] t K) (hK : ∀ t, P1 t → R 0 t) : sx_wp true sL sx eX10_beginArgument CALL [] Q R 400 0 (sx_argsF 0 [.inr (.inl 55), .inl a0]) [] s := by
  repeat' (first | (with_reducible intro _) | (refine And.intro ?_ ?_) | (refine h1 _ (fun zz1 zt1 zp1 => ?_)) | (refine hD zt1 zp1 _ ?_) | (refine hA zt1 zp1 _ ?_) | (fail))
  all_goals (try dsimp only at *)
  all_goals (first | trivial | assumption | omega | (exfalso; omega) | (exact hK _ zp1) | skip)
theorem w_k_baY {CALL : sx_Ca} {sL : Nat} {sx : Nat → Int32} {Q : Nat → sx_L → sx_S → Prop} {R : Int → sx_S → Prop} {s : sx_S} {a0 kd ar mk : Int} {P1 : sx_S → Prop} {P2 P3 : sx_S → sx_S → Prop} (rd : 0 ≤ kd ∧ kd ≤ 9) (ra : -2147483648 ≤ ar ∧ ar ≤ 2147483647) (ho : kd = 0 ∨ 0 < ar) (rm : 0 ≤ mk ∧ mk ≤ 1024) (h1 : ∀ K : Int → sx_S → Prop, (∀ z t, P1 t → K z t) → CALL 135 [.inr (.inl 55), .inl 32] s K) (hD : ∀ t, P1 t → ∀ K : Int → sx_S → Prop, K kd t → CALL 91 [.inr (.inl 11), .inl a0] t K) (hA : ∀ t, P1 t → ∀ K : Int → sx_S → Prop, K ar t → CALL 94 [.inr (.inl 11), .inl a0] t K) (h2 : ∀ t, P1 t → ∀ K : Int → sx_S → Prop, (∀ z t2, P2 t t2 → K z t2) → CALL 135 [.inr (.inl 55), .inl 40] t K) (hM : ∀ t t2, P1 t → P2 t t2 → ∀ K : Int → sx_S → Prop, K mk t2 → CALL 44 [.inr (.inl 29)] t2 K) (h3 : ∀ t t2, P1 t → P2 t t2 → ∀ K : Int → sx_S → Prop, (∀ z t3, P3 t2 t3 → K z t3) → CALL 61 [.inr (.inl 56), .inl (-1), .inl (-1), .inl 2, .inl (-1), .inl 0, .inl mk] t2 K) (hK : ∀ t t2 t3, P1 t → P2 t t2 → P3 t2 t3 → R 0 t3) : sx_wp true sL sx eX10_beginArgument CALL [] Q R 400 0 (sx_argsF 0 [.inr (.inl 55), .inl a0]) [] s := by
  repeat' (first | (with_reducible intro _) | (refine And.intro ?_ ?_) | (refine h1 _ (fun zz1 zt1 zp1 => ?_)) | (refine hD zt1 zp1 _ ?_) | (refine hA zt1 zp1 _ ?_) | (refine h2 zt1 zp1 _ (fun zz2 zt2 zp2 => ?_)) | (refine hM zt1 zt2 zp1 zp2 _ ?_) | (refine h3 zt1 zt2 zp1 zp2 _ (fun zz3 zt3 zp3 => ?_)) | (fail))
  all_goals (try dsimp only at *)
  all_goals (first | trivial | assumption | omega | (exfalso; omega) | (exact hK _ _ _ zp1 zp2 zp3) | skip)
theorem c_k_baN {sL : Nat} {sx : Nat → Int32} (hsL : sL ≤ 3072) (d : Nat) (hd : 4 ≤ d) : ∀ (a0 : Int) (s : sx_S) (K : Int → sx_S → Prop), cx_I s → (0 ≤ a0 ∧ a0 < s.1 11 6) → (0 < s.2.1 12 a0.toNat ∧ s.2.1 12 a0.toNat ≤ 9) → s.2.1 16 a0.toNat = 0 → s.1 55 10 ≤ 900000000 → (∀ z t, wk_PT s t [32] → K z t) → sx_C sL sx d 129 [.inr (.inl 55), .inl a0] s K := by
  intro a0 s K hI p0 rd ra h10 hK
  have f6 := hI.fld 11 6 (by decide) rfl
  obtain ⟨d, rfl⟩ : ∃ e, d = e + 2 := ⟨d - 2, by omega⟩
  refine sx_meth (wr := true) (n := 400) hsL (e := eX10_beginArgument) rfl (w_k_baN (Q := fun _ _ _ => False) (kd := s.2.1 12 a0.toNat) (ar := 0) (P1 := fun t => wk_PT s t [32]) rd rfl (fun K' hK' => c_k_put hsL (d + 1) (by omega) 32 s K' hI (by omega) (by omega) hK') (fun t ht K' hK' => ?_) (fun t ht K' hK' => ?_) (fun t ht => hK 0 t ht))
  · refine c_dz_kind hsL (d + 1) (by omega) a0 t K' ht.1 (by omega) (fun z z1 _ => ?_)
    rw [z1 p0.1 (by rw [(ht.2.1.same 11 rfl).1]; exact p0.2), (ht.2.1.same 12 rfl).2]
    exact hK'
  · refine c_dz_arity hsL (d + 1) (by omega) a0 t K' ht.1 (by omega) (fun z z1 _ => ?_)
    rw [z1 p0.1 (by rw [(ht.2.1.same 11 rfl).1]; exact p0.2), (ht.2.1.same 16 rfl).2, ra]
    exact hK'
theorem c_k_baY {sL : Nat} {sx : Nat → Int32} (hsL : sL ≤ 3072) (d : Nat) (hd : 4 ≤ d) : ∀ (a0 : Int) (s : sx_S) (K : Int → sx_S → Prop), cx_I s → (0 ≤ a0 ∧ a0 < s.1 11 6) → (0 ≤ s.2.1 12 a0.toNat ∧ s.2.1 12 a0.toNat ≤ 9) → (s.2.1 12 a0.toNat = 0 ∨ 0 < s.2.1 16 a0.toNat) → s.1 56 6 < 512 → s.1 55 10 ≤ 900000000 → (∀ z t u, wk_PT s u [32, 40] → cx_I t → cx_F [(56, 62)] u t → dv_pu 56 (-1, -1, 2, -1, 0, s.1 29 3) u t → K z t) → sx_C sL sx d 129 [.inr (.inl 55), .inl a0] s K := by
  intro a0 s K hI p0 rd ho hp h10 hK
  have ra := hI.arr 16 (by decide) rfl a0.toNat
  have f6 := hI.fld 11 6 (by decide) rfl
  have f3 := hI.fld 29 3 (by decide) rfl
  obtain ⟨d, rfl⟩ : ∃ e, d = e + 2 := ⟨d - 2, by omega⟩
  refine sx_meth (wr := true) (n := 400) hsL (e := eX10_beginArgument) rfl (w_k_baY (Q := fun _ _ _ => False) (kd := s.2.1 12 a0.toNat) (ar := s.2.1 16 a0.toNat) (mk := s.1 29 3) (P1 := fun t => wk_PT s t [32]) (P2 := fun t t2 => wk_PT t t2 [40]) (P3 := fun t2 t3 => cx_I t3 ∧ cx_F [(56, 62)] t2 t3 ∧ dv_pu 56 (-1, -1, 2, -1, 0, s.1 29 3) t2 t3) rd ra ho (by omega) (fun K' hK' => c_k_put hsL (d + 1) (by omega) 32 s K' hI (by omega) (by omega) hK') (fun t ht K' hK' => ?_) (fun t ht K' hK' => ?_) (fun t ht K' hK' => ?_) (fun t t2 ht ht2 K' hK' => ?_) (fun t t2 ht ht2 K' hK' => ?_) (fun t t2 t3 ht ht2 ht3 => hK 0 t3 t2 (wk_PT_t ht ht2) ht3.1 ht3.2.1 ht3.2.2))
  · refine c_dz_kind hsL (d + 1) (by omega) a0 t K' ht.1 (by omega) (fun z z1 _ => ?_)
    rw [z1 p0.1 (by rw [(ht.2.1.same 11 rfl).1]; exact p0.2), (ht.2.1.same 12 rfl).2]
    exact hK'
  · refine c_dz_arity hsL (d + 1) (by omega) a0 t K' ht.1 (by omega) (fun z z1 _ => ?_)
    rw [z1 p0.1 (by rw [(ht.2.1.same 11 rfl).1]; exact p0.2), (ht.2.1.same 16 rfl).2]
    exact hK'
  · have e1 : t.1 55 10 = s.1 55 10 + 1 := ht.2.2.2.1
    exact c_k_put hsL (d + 1) (by omega) 40 t K' ht.1 (by omega) (by omega) hK'
  · refine c_dv_mark hsL (d + 1) (by omega) t2 K' ht2.1 (fun z z1 => ?_)
    rw [z1, (ht2.2.1.same 29 rfl).1, (ht.2.1.same 29 rfl).1]
    exact hK'
  · exact c_dv_pair56 hsL (d + 1) (by omega) _ _ _ _ _ _ t2 K' ht2.1 (by rw [(ht2.2.1.same 56 rfl).1, (ht.2.1.same 56 rfl).1]; exact hp) (by omega) (by omega) (by omega) (by omega) (by omega) (by omega) (fun z t3 a b c => hK' z t3 ⟨a, b, c⟩)
