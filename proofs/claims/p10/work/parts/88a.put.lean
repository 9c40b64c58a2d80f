/-! ===== the desk puts bytes, exactly ===== -/
def wb_Dp (s : sx_S) (o : List Int) : Prop := s.1 55 10 = (o.length : Int) ∧ ∀ i : Nat, i < o.length → i < 4000 → o[i]? = some (s.2.1 65 i)
/-- the bytes l were put -/
def wk_PT (s t : sx_S) (l : List Int) : Prop := cx_I t ∧ cx_F [(55, 55), (65, 65)] s t ∧ (∀ k, k ≠ 10 → t.1 55 k = s.1 55 k) ∧ t.1 55 10 = s.1 55 10 + (l.length : Int) ∧ ∀ o, wb_Dp s o → wb_Dp t (o ++ l)
theorem wk_PT_0 {s : sx_S} (hI : cx_I s) : wk_PT s s [] := ⟨hI, cx_F_refl _ _, fun _ _ => rfl, by show s.1 55 10 = s.1 55 10 + 0; omega, fun o h => by rw [List.append_nil]; exact h⟩
theorem wk_PT_t {s u t : sx_S} {l l' : List Int} (h1 : wk_PT s u l) (h2 : wk_PT u t l') : wk_PT s t (l ++ l') := by
  obtain ⟨a1, a2, a3, a4, a5⟩ := h1
  obtain ⟨b1, b2, b3, b4, b5⟩ := h2
  refine ⟨b1, cx_F_step b2 rfl a2, fun k hk => (b3 k hk).trans (a3 k hk), by rw [List.length_append]; omega, fun o ho => ?_⟩
  rw [← List.append_assoc]
  exact b5 _ (a5 o ho)
theorem w_k_put {CALL : sx_Ca} {sL : Nat} {sx : Nat → Int32} {Q : Nat → sx_L → sx_S → Prop} {R : Int → sx_S → Prop} {s : sx_S} {a0 : Int} (hI : cx_I s) (p0 : -2147483648 ≤ a0 ∧ a0 ≤ 2147483647) (h10 : s.1 55 10 ≤ 999999999) (hK1 : s.1 55 10 < 4000 → R 0 (sx_uf s.1 55 10 (s.1 55 10 + 1), sx_ua s.2.1 65 (s.1 55 10).toNat a0, s.2.2)) (hK2 : 4000 ≤ s.1 55 10 → R 0 (sx_uf s.1 55 10 (s.1 55 10 + 1), s.2)) : sx_wp true sL sx eX10_put CALL [] Q R 400 0 (sx_argsF 0 [.inr (.inl 55), .inl a0]) [] s := by
  have r := hI.fld 55 10 (by decide) rfl
  have zzy : sx_w true (s.1 55 10 + 1) = s.1 55 10 + 1 := px_wid (by omega) (by omega)
  rw [← zzy] at hK1 hK2
  have zzi : s.1 55 10 < 4000 → cx_I (s.1, sx_ua s.2.1 65 (s.1 55 10).toNat a0, s.2.2) := fun _ => cx_I_ua rfl rfl hI (by omega) (by omega)
  repeat' (first | (with_reducible (rintro _ rfl)) | (with_reducible intro _) | (refine And.intro ?_ ?_))
  all_goals (try dsimp only at *)
  all_goals (first | trivial | assumption | omega | (exfalso; omega) | (exact zzi (by omega)) | (exact hK1 (by omega)) | (exact hK2 (by omega)) | skip)
theorem c_k_put {sL : Nat} {sx : Nat → Int32} (hsL : sL ≤ 3072) (d : Nat) (hd : 2 ≤ d) : ∀ (a0 : Int) (s : sx_S) (K : Int → sx_S → Prop), cx_I s → (-2147483648 ≤ a0 ∧ a0 ≤ 2147483647) → s.1 55 10 ≤ 999999999 → (∀ z t, wk_PT s t [a0] → K z t) → sx_C sL sx d 135 [.inr (.inl 55), .inl a0] s K := by
  intro a0 s K hI p0 h10 hK
  have r := hI.fld 55 10 (by decide) rfl
  obtain ⟨d, rfl⟩ : ∃ e, d = e + 2 := ⟨d - 2, by omega⟩
  refine sx_meth (wr := true) (n := 400) hsL (e := eX10_put) rfl (w_k_put (Q := fun _ _ _ => False) hI p0 h10 (fun q => hK 0 _ ⟨?_, ?_, fun k hk => ?_, ?_, fun o ho => ?_⟩) (fun q => hK 0 _ ⟨?_, ?_, fun k hk => ?_, ?_, fun o ho => ?_⟩))
  · exact cx_I_uf rfl rfl (cx_I_ua rfl rfl hI (by omega) (by omega)) (by omega) (by omega)
  · exact cx_F_uf rfl (cx_F_ua rfl (cx_F_refl _ _))
  · show sx_uf s.1 55 10 (s.1 55 10 + 1) 55 k = _
    rw [sx_uf_if, if_neg (fun c => hk c.2)]
  · show sx_uf s.1 55 10 (s.1 55 10 + 1) 55 10 = s.1 55 10 + 1
    exact px_us _ _ _ _
  · obtain ⟨h1, h2⟩ := ho
    have ln : (o ++ [a0]).length = o.length + 1 := by rw [List.length_append]; rfl
    refine ⟨?_, fun i hi h4 => ?_⟩
    · show sx_uf s.1 55 10 (s.1 55 10 + 1) 55 10 = _
      rw [px_us, ln]
      omega
    · show (o ++ [a0])[i]? = some (sx_ua s.2.1 65 (s.1 55 10).toNat a0 65 i)
      rw [sx_ua_same]
      dsimp only
      by_cases c : i = (s.1 55 10).toNat
      · rw [if_pos c, List.getElem?_append_right (by omega), show i - o.length = 0 by omega]
        rfl
      · rw [if_neg c, List.getElem?_append_left (by omega)]
        exact h2 i (by omega) h4
  · exact cx_I_uf rfl rfl hI (by omega) (by omega)
  · exact cx_F_uf rfl (cx_F_refl _ _)
  · show sx_uf s.1 55 10 (s.1 55 10 + 1) 55 k = _
    rw [sx_uf_if, if_neg (fun c => hk c.2)]
  · show sx_uf s.1 55 10 (s.1 55 10 + 1) 55 10 = s.1 55 10 + 1
    exact px_us _ _ _ _
  · obtain ⟨h1, h2⟩ := ho
    have ln : (o ++ [a0]).length = o.length + 1 := by rw [List.length_append]; rfl
    refine ⟨?_, fun i hi h4 => ?_⟩
    · show sx_uf s.1 55 10 (s.1 55 10 + 1) 55 10 = _
      rw [px_us, ln]
      omega
    · show (o ++ [a0])[i]? = some (s.2.1 65 i)
      rw [List.getElem?_append_left (by omega)]
      exact h2 i (by omega) h4
theorem w_k_putN {CALL : sx_Ca} {sL : Nat} {sx : Nat → Int32} {Q : Nat → sx_L → sx_S → Prop} {R : Int → sx_S → Prop} {s : sx_S} {a0 : Int} (p0 : 0 ≤ a0 ∧ a0 ≤ 999999999) (hQ : Q 4 [(0, .inr (.inl 55)), (1, .inl a0), (2, .inl 1), (3, .inl 0)] s) : sx_wp false sL sx eX10_putNumber CALL [(4, [0, 1, 2, 3]), (31, [0, 1, 2, 3])] Q R 400 0 (sx_argsF 0 [.inr (.inl 55), .inl a0]) [] s := by
  repeat' (first | (with_reducible intro _) | (refine And.intro ?_ ?_))
  all_goals (try dsimp only at *)
  all_goals (first | trivial | assumption | omega | skip)
theorem w_k_putN4 {CALL : sx_Ca} {sL : Nat} {sx : Nat → Int32} {Q : Nat → sx_L → sx_S → Prop} {R : Int → sx_S → Prop} {s : sx_S} {a0 y x3 : Int} (p0 : 0 ≤ a0 ∧ a0 ≤ 999999999) (hy : 1 ≤ y ∧ y ≤ 100000000) (h3 : 0 ≤ x3 ∧ x3 ≤ 8) (hQ4 : x3 < 8 → y * 10 ≤ a0 → Q 4 [(0, .inr (.inl 55)), (1, .inl a0), (2, .inl (y * 10)), (3, .inl (x3 + 1))] s) (hQ31 : (8 ≤ x3 ∨ a0 < y * 10) → Q 31 [(0, .inr (.inl 55)), (1, .inl a0), (2, .inl y), (3, .inl 0)] s) : sx_wp false sL sx eX10_putNumber CALL [(4, [0, 1, 2, 3]), (31, [0, 1, 2, 3])] Q R 400 4 [(0, .inr (.inl 55)), (1, .inl a0), (2, .inl y), (3, .inl x3)] [] s := by
  repeat' (first | (with_reducible intro _) | (refine And.intro ?_ ?_))
  all_goals (try dsimp only at *)
  all_goals (first | trivial | assumption | omega | (simp only [sx_w_f] at *; omega) | (exact hQ4 (by omega) (by omega)) | (exact hQ31 (by omega)) | (exact hQ4 (by omega) (by simp only [sx_w_f] at *; omega)) | (exact hQ31 (by simp only [sx_w_f] at *; omega)) | skip)
theorem w_k_putN31 {CALL : sx_Ca} {sL : Nat} {sx : Nat → Int32} {Q : Nat → sx_L → sx_S → Prop} {R : Int → sx_S → Prop} {s : sx_S} {a0 y x3 : Int} {PW : sx_S → Prop} (p0 : 0 ≤ a0 ∧ a0 ≤ 999999999) (hy : 0 ≤ y ∧ y ≤ 100000000) (h3 : 0 ≤ x3 ∧ (0 < y → x3 ≤ 9) ∧ x3 ≤ 10) (hK : y = 0 → R 0 s) (hP : 0 < y → ∀ K : Int → sx_S → Prop, (∀ z t, PW t → K z t) → CALL 135 [.inr (.inl 55), .inl (wb_d a0 y)] s K) (hQ : 0 < y → ∀ t, PW t → Q 31 [(0, .inr (.inl 55)), (1, .inl a0), (2, .inl (y.tdiv 10)), (3, .inl (x3 + 1))] t) : sx_wp false sL sx eX10_putNumber CALL [(4, [0, 1, 2, 3]), (31, [0, 1, 2, 3])] Q R 400 31 [(0, .inr (.inl 55)), (1, .inl a0), (2, .inl y), (3, .inl x3)] [] s := by
  have hd := fun h => rf_dvin (v := a0) (t := y) (by omega) h
  have hr := rf_rm (a0.tdiv y)
  have h10 := rf_d10 hy.1
  have hr2 := fun h : 1 ≤ y => rf_dvin (t := 10) (rf_dvin (v := a0) (t := y) (by omega) h) (by decide)
  have hdd : wb_d a0 y = 48 + (a0.tdiv y - (a0.tdiv y).tdiv 10 * 10) := rfl
  rw [hdd] at hP
  repeat' (first | (with_reducible intro _) | (refine And.intro ?_ ?_) | (refine hP (by omega) _ (fun zzz zzt zzp => ?_)) | (fail))
  all_goals (try dsimp only at *)
  all_goals (first | trivial | assumption | omega | (simp only [sx_w_f] at *; omega) | (exact hK (by omega)) | (exact hQ (by omega) _ zzp) | (have zz1 := hd (by omega); have zz2 := hr2 (by omega); simp only [sx_w_f] at *; omega) | skip)
theorem wb_lt10 {a y : Int} (ha : 0 ≤ a) (hy : 1 ≤ y) : a.tdiv y ≤ 9 ↔ a < y * 10 := by
  rw [Int.tdiv_eq_ediv_of_nonneg ha]
  have h : a / y < 10 ↔ a < 10 * y := Int.ediv_lt_iff_lt_mul (by omega)
  constructor
  · intro q
    have := h.mp (by omega)
    omega
  · intro q
    have := h.mpr (by omega)
    omega
theorem wb_len_ds (v : Int) : ∀ j, (wb_ds v j).length = j + 1
  | 0 => rfl
  | j + 1 => by
    show (wb_ds v j).length + 1 = _
    rw [wb_len_ds v j]
theorem wb_kf_le (v : Int) : ∀ f j, wb_kf v f j ≤ f + j
  | 0, j => by
    show j ≤ 0 + j
    omega
  | f + 1, j => by
    show (if v.tdiv (wb_p j) ≤ 9 then j else wb_kf v f (j + 1)) ≤ _
    have := wb_kf_le v f (j + 1)
    by_cases c : v.tdiv (wb_p j) ≤ 9
    · rw [if_pos c]
      omega
    · rw [if_neg c]
      omega
theorem wb_dg_len (v : Int) : (wb_dg v).length ≤ 10 := by
  unfold wb_dg
  rw [wb_len_ds]
  have := wb_kf_le v 9 0
  omega
theorem c_k_putN {sL : Nat} {sx : Nat → Int32} (hsL : sL ≤ 3072) (d : Nat) (hd : 3 ≤ d) : ∀ (a0 : Int) (s : sx_S) (K : Int → sx_S → Prop), cx_I s → (0 ≤ a0 ∧ a0 ≤ 99999999) → s.1 55 10 ≤ 999999000 → (∀ z t, wk_PT s t (wb_dg a0) → K z t) → sx_C sL sx d 134 [.inr (.inl 55), .inl a0] s K := by
  intro a0 s K hI p0 h10 hK
  have dl := wb_dg_len a0
  obtain ⟨d, rfl⟩ : ∃ e, d = e + 2 := ⟨d - 2, by omega⟩
  refine sx_methL (wr := false) (n := 400) (n' := 400) (stop := [(4, [0, 1, 2, 3]), (31, [0, 1, 2, 3])]) (fun n pc ls u => (pc = 4 ∧ ∃ j : Nat, ls = [(0, .inr (.inl 55)), (1, .inl a0), (2, .inl (wb_p j)), (3, .inl (j : Int))] ∧ j ≤ 8 ∧ wb_kf a0 (9 - j) j = wb_kf a0 9 0 ∧ u = s ∧ n = 100 - j) ∨ (pc = 31 ∧ ∃ (y x3 : Int) (l l' : List Int), ls = [(0, .inr (.inl 55)), (1, .inl a0), (2, .inl y), (3, .inl x3)] ∧ wk_PT s u l ∧ l ++ l' = wb_dg a0 ∧ ((y = 0 ∧ l' = [] ∧ (0 ≤ x3 ∧ x3 ≤ 10) ∧ n = 0) ∨ ∃ j : Nat, j ≤ 8 ∧ y = wb_p j ∧ l' = wb_ds a0 j ∧ (0 ≤ x3 ∧ x3 + (j : Int) ≤ 8) ∧ n = j + 1))) hsL (e := eX10_putNumber) rfl ?_ ?_
  · exact w_k_putN (by omega) ⟨_, Or.inl ⟨rfl, 0, rfl, by omega, rfl, rfl, rfl⟩⟩
  · rintro n pc ls u (⟨rfl, j, rfl, j9, hk, rfl, rfl⟩ | ⟨rfl, y, x3, l, l', rfl, hu, hl, hc⟩)
    · have h1 := wb_p1 j
      have h9 : wb_p j ≤ 100000000 := by
        have : ∀ {j : Nat}, j ≤ 8 → wb_p j ≤ 100000000 := by decide
        exact this j9
      have lt := wb_lt10 (a := a0) (y := wb_p j) p0.1 h1
      refine w_k_putN4 (by omega) ⟨h1, h9⟩ (by omega) (fun q1 q2 => ?_) (fun q => ?_)
      · refine ⟨100 - (j + 1), by omega, Or.inl ⟨rfl, j + 1, ?_, by omega, ?_, rfl, rfl⟩⟩
        · show _ = [(0, Sum.inr (Sum.inl 55)), (1, Sum.inl a0), (2, Sum.inl (wb_p j * 10)), (3, Sum.inl (((j + 1 : Nat) : Int)))]
          rw [show ((j + 1 : Nat) : Int) = (j : Int) + 1 by omega]
        · rw [← hk, show 9 - j = (9 - (j + 1)) + 1 by omega]
          show _ = if a0.tdiv (wb_p j) ≤ 9 then j else wb_kf a0 (9 - (j + 1)) (j + 1)
          rw [if_neg (by omega)]
      · have q9 : a0.tdiv (wb_p j) ≤ 9 := by
          rw [lt]
          rcases q with q | q
          · have e8 : j = 8 := by omega
            have e9 : wb_p 8 = 100000000 := by decide
            rw [e8, e9]
            omega
          · exact q
        have ek : wb_kf a0 9 0 = j := by
          rw [← hk, show 9 - j = (9 - (j + 1)) + 1 by omega]
          show (if a0.tdiv (wb_p j) ≤ 9 then j else wb_kf a0 (9 - (j + 1)) (j + 1)) = j
          rw [if_pos q9]
        refine ⟨j + 1, by omega, Or.inr ⟨rfl, wb_p j, 0, [], wb_ds a0 j, rfl, wk_PT_0 hI, ?_, Or.inr ⟨j, j9, rfl, rfl, by omega, rfl⟩⟩⟩
        show wb_ds a0 j = wb_ds a0 (wb_kf a0 9 0)
        rw [ek]
    · rcases hc with ⟨y0, el, h3, rfl⟩ | ⟨j, j9, ey, el, h3, rfl⟩
      · refine w_k_putN31 (PW := fun _ => False) (by omega) (by omega) (by omega) (fun _ => hK 0 u ?_) (fun q => absurd q (by omega)) (fun q => absurd q (by omega))
        rw [el, List.append_nil] at hl
        rw [← hl]
        exact hu
      · have h1 := wb_p1 j
        have h9 : wb_p j ≤ 100000000 := by
          have : ∀ {j : Nat}, j ≤ 8 → wb_p j ≤ 100000000 := by decide
          exact this j9
        obtain ⟨l2, e1, e2⟩ := wb_ds_c (v := a0) j
        have hr := rf_rm (a0.tdiv y)
        have hll : l.length ≤ 10 := by
          have : (l ++ l').length ≤ 10 := by rw [hl]; exact dl
          rw [List.length_append] at this
          omega
        have hin := hu.2.2.2.1
        refine w_k_putN31 (PW := fun t => wk_PT u t [wb_d a0 y]) (by omega) (by omega) (by omega) (fun q => absurd q (by omega)) (fun _ K' hK' => c_k_put hsL (d + 1) (by omega) _ u K' hu.1 (by unfold wb_d; omega) (by omega) hK') (fun _ t ht => ?_)
        have hl2 : (l ++ [wb_d a0 y]) ++ l2 = wb_dg a0 := by
          rw [← hl, el, e1, ey, List.append_assoc]
          rfl
        have hpt : wk_PT s t (l ++ [wb_d a0 y]) := wk_PT_t hu ht
        rcases e2 with ⟨j0, rfl⟩ | ⟨i, ji, rfl⟩
        · refine ⟨0, by omega, Or.inr ⟨rfl, y.tdiv 10, x3 + 1, l ++ [wb_d a0 y], [], rfl, hpt, hl2, Or.inl ⟨?_, rfl, by omega, rfl⟩⟩⟩
          rw [ey, j0]
          decide
        · refine ⟨i + 1, by omega, Or.inr ⟨rfl, y.tdiv 10, x3 + 1, l ++ [wb_d a0 y], wb_ds a0 i, rfl, hpt, hl2, Or.inr ⟨i, by omega, ?_, rfl, by omega, rfl⟩⟩⟩
          rw [ey, ji]
          exact wb_p_d i
theorem w_k_putB {CALL : sx_Ca} {sL : Nat} {sx : Nat → Int32} {Q : Nat → sx_L → sx_S → Prop} {R : Int → sx_S → Prop} {s : sx_S} {a0 : Int} {P1 : sx_S → Prop} {P2 P3 P4 : sx_S → sx_S → Prop} (p0 : 0 ≤ a0 ∧ a0 ≤ 99999999) (h1 : ∀ K : Int → sx_S → Prop, (∀ z t, P1 t → K z t) → CALL 135 [.inr (.inl 55), .inl 92] s K) (h2 : ∀ t, P1 t → ∀ K : Int → sx_S → Prop, (∀ z t2, P2 t t2 → K z t2) → CALL 135 [.inr (.inl 55), .inl 120] t K) (h3 : ∀ t t2, P1 t → P2 t t2 → ∀ K : Int → sx_S → Prop, (∀ z t3, P3 t2 t3 → K z t3) → CALL 134 [.inr (.inl 55), .inl a0] t2 K) (h4 : ∀ t t2 t3, P1 t → P2 t t2 → P3 t2 t3 → ∀ K : Int → sx_S → Prop, (∀ z t4, P4 t3 t4 → K z t4) → CALL 135 [.inr (.inl 55), .inl 46] t3 K) (hK : ∀ t t2 t3 t4, P1 t → P2 t t2 → P3 t2 t3 → P4 t3 t4 → R 0 t4) : sx_wp true sL sx eX10_putBinder CALL [] Q R 400 0 (sx_argsF 0 [.inr (.inl 55), .inl a0]) [] s := by
  repeat' (first | (with_reducible intro _) | (refine And.intro ?_ ?_) | (refine h1 _ (fun zz1 zt1 zp1 => ?_)) | (refine h2 zt1 zp1 _ (fun zz2 zt2 zp2 => ?_)) | (refine h3 zt1 zt2 zp1 zp2 _ (fun zz3 zt3 zp3 => ?_)) | (refine h4 zt1 zt2 zt3 zp1 zp2 zp3 _ (fun zz4 zt4 zp4 => ?_)) | (fail))
  all_goals (try dsimp only at *)
  all_goals (first | trivial | assumption | omega | (exact hK _ _ _ _ zp1 zp2 zp3 zp4) | skip)
theorem c_k_putB {sL : Nat} {sx : Nat → Int32} (hsL : sL ≤ 3072) (d : Nat) (hd : 4 ≤ d) : ∀ (a0 : Int) (s : sx_S) (K : Int → sx_S → Prop), cx_I s → (0 ≤ a0 ∧ a0 ≤ 99999999) → s.1 55 10 ≤ 999998000 → (∀ z t, wk_PT s t (92 :: 120 :: (wb_dg a0 ++ [46])) → K z t) → sx_C sL sx d 133 [.inr (.inl 55), .inl a0] s K := by
  intro a0 s K hI p0 h10 hK
  have dl := wb_dg_len a0
  obtain ⟨d, rfl⟩ : ∃ e, d = e + 2 := ⟨d - 2, by omega⟩
  refine sx_meth (wr := true) (n := 400) hsL (e := eX10_putBinder) rfl (w_k_putB (Q := fun _ _ _ => False) (P1 := fun t => wk_PT s t [92]) (P2 := fun t t2 => wk_PT t t2 [120]) (P3 := fun t t2 => wk_PT t t2 (wb_dg a0)) (P4 := fun t t2 => wk_PT t t2 [46]) p0 (fun K' hK' => c_k_put hsL (d + 1) (by omega) 92 s K' hI (by omega) (by omega) hK') (fun t h1 K' hK' => ?_) (fun t t2 h1 h2 K' hK' => ?_) (fun t t2 t3 h1 h2 h3 K' hK' => ?_) (fun t t2 t3 t4 h1 h2 h3 h4 => hK 0 t4 (wk_PT_t (wk_PT_t (wk_PT_t h1 h2) h3) h4)))
  · have e1 : t.1 55 10 = s.1 55 10 + 1 := h1.2.2.2.1
    exact c_k_put hsL (d + 1) (by omega) 120 t K' h1.1 (by omega) (by omega) hK'
  · have e1 : t.1 55 10 = s.1 55 10 + 1 := h1.2.2.2.1
    have e2 : t2.1 55 10 = t.1 55 10 + 1 := h2.2.2.2.1
    exact c_k_putN hsL (d + 1) (by omega) a0 t2 K' h2.1 p0 (by omega) hK'
  · have e1 : t.1 55 10 = s.1 55 10 + 1 := h1.2.2.2.1
    have e2 : t2.1 55 10 = t.1 55 10 + 1 := h2.2.2.2.1
    have e3 := h3.2.2.2.1
    exact c_k_put hsL (d + 1) (by omega) 46 t3 K' h3.1 (by omega) (by omega) hK'
