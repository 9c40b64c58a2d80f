/-! ===== the desk: all solutions are read, and numbered ===== -/
theorem w_dv_fill63 {CALL : sx_Ca} {sL : Nat} {sx : Nat → Int32} {Q : Nat → sx_L → sx_S → Prop} {R : Int → sx_S → Prop} {s : sx_S} {v : Int} (hI : cx_I s) (pv : (-2147483648 ≤ v ∧ v ≤ 2147483647)) (hQ : Q 5 [(0, .inr (.inl 63)), (1, .inl v), (2, .inl 0), (3, .inl 32)] s) : sx_wp true sL sx eJ7_fill_53178 CALL [(5, [0, 1, 2, 3])] Q R 400 0 (sx_argsF 0 [.inr (.inl 63), .inl v]) [] s := by
  repeat' (first | (with_reducible (rintro _ rfl)) | (with_reducible intro _) | (refine And.intro ?_ ?_))
  all_goals (try dsimp only at *)
  all_goals (first | trivial | assumption | omega | (exfalso; omega) | skip)
theorem w_dv_fill63_5 {CALL : sx_Ca} {sL : Nat} {sx : Nat → Int32} {Q : Nat → sx_L → sx_S → Prop} {R : Int → sx_S → Prop} {s : sx_S} {v x2 : Int} (hI : cx_I s) (pv : (-2147483648 ≤ v ∧ v ≤ 2147483647)) (q2 : 0 ≤ x2 ∧ x2 ≤ 32) (hK : x2 = 32 → R 0 s) (hQ : x2 < 32 → cx_I (s.1, sx_ua s.2.1 63 x2.toNat v, s.2.2) → Q 5 [(0, .inr (.inl 63)), (1, .inl v), (2, .inl (x2 + 1)), (3, .inl 32)] (s.1, sx_ua s.2.1 63 x2.toNat v, s.2.2)) : sx_wp true sL sx eJ7_fill_53178 CALL [(5, [0, 1, 2, 3])] Q R 400 5 [(0, .inr (.inl 63)), (1, .inl v), (2, .inl x2), (3, .inl 32)] [] s := by
  have zzi : cx_I (s.1, sx_ua s.2.1 63 x2.toNat v, s.2.2) := cx_I_ua rfl rfl hI (by omega) (by omega)
  have zzy : sx_w true (x2 + 1) = x2 + 1 := px_wid (by omega) (by omega)
  repeat' (first | (with_reducible (rintro _ rfl)) | (with_reducible intro _) | (refine And.intro ?_ ?_))
  all_goals (try dsimp only at *)
  all_goals (first | trivial | assumption | omega | (exfalso; omega) | (exact hK (by omega)) | (have zz9 := hQ (by omega) zzi; rw [← zzy] at zz9; exact zz9) | skip)
theorem c_dv_fill63 {sL : Nat} {sx : Nat → Int32} (hsL : sL ≤ 3072) (d : Nat) (hd : 2 ≤ d) : ∀ (v : Int) (s : sx_S) (K : Int → sx_S → Prop), cx_I s → (-2147483648 ≤ v ∧ v ≤ 2147483647) → (∀ t, cx_I t → cx_F [(63, 63)] s t → t.1 = s.1 → (∀ j : Nat, j < 32 → t.2.1 63 j = v) → K 0 t) → sx_C sL sx d 219 [.inr (.inl 63), .inl v] s K := by
  intro v s K hI pv hK
  obtain ⟨d, rfl⟩ : ∃ e, d = e + 2 := ⟨d - 2, by omega⟩
  refine sx_methL (wr := true) (n := 400) (n' := 400) (stop := [(5, [0, 1, 2, 3])]) (fun nn pc ls u => pc = 5 ∧ ∃ x2 : Nat, ls = [(0, .inr (.inl 63)), (1, .inl v), (2, .inl (x2 : Int)), (3, .inl 32)] ∧ cx_I u ∧ cx_F [(63, 63)] s u ∧ u.1 = s.1 ∧ (∀ j : Nat, j < x2 → u.2.1 63 j = v) ∧ x2 ≤ 32 ∧ nn = 32 - x2) hsL (e := eJ7_fill_53178) rfl ?_ ?_
  · exact w_dv_fill63 hI pv ⟨_, rfl, 0, rfl, hI, cx_F_refl _ _, rfl, fun j hj => absurd hj (by omega), by omega, rfl⟩
  · rintro nn pc ls u ⟨rfl, x2, rfl, i1, i2, i3, i4, i5, rfl⟩
    refine w_dv_fill63_5 i1 pv (by omega) (fun h => hK u i1 i2 i3 (fun j hj => i4 j (by omega))) (fun h hI2 => ⟨32 - (x2 + 1), by omega, rfl, x2 + 1, rfl, hI2, cx_F_ua rfl i2, i3, fun j hj => ?_, by omega, rfl⟩)
    show sx_ua u.2.1 63 ((x2 : Int)).toNat v 63 j = v
    rw [sx_ua_same]
    dsimp only
    by_cases q : j = x2
    · rw [if_pos (by omega)]
    · rw [if_neg (by omega)]
      exact i4 j (by omega)
theorem w_dw_ur {CALL : sx_Ca} {sL : Nat} {sx : Nat → Int32} {Q : Nat → sx_L → sx_S → Prop} {R : Int → sx_S → Prop} (h_tot : ∀ (s : sx_S) (K : Int → sx_S → Prop), cx_I s → (∀ z : Int, (z = s.1 22 2) → K z s) → CALL 52 [.inr (.inl 22)] s K) {s : sx_S} {a0 : Int} (hI : cx_I s) (p0 : 0 ≤ a0 ∧ a0 < s.1 22 2 ∧ a0 < 5) (hK : R (s.2.1 25 a0.toNat) s) : sx_wp true sL sx eX1_unknownRoot CALL [] Q R 400 0 (sx_argsF 0 [.inr (.inl 18), .inl a0]) [] s := by
  have zz22 := hI.fld 22 2 (by decide) rfl
  repeat' (first | (with_reducible (rintro _ rfl)) | (with_reducible intro _) | (refine And.intro ?_ ?_) | (refine h_tot s _ hI (fun v v1 => ?_); obtain rfl := v1))
  all_goals (try dsimp only at *)
  all_goals (first | trivial | assumption | omega | (exfalso; omega) | skip)
theorem c_dw_ur {sL : Nat} {sx : Nat → Int32} (hsL : sL ≤ 3072) (d : Nat) (hd : 3 ≤ d) : ∀ (a0 : Int) (s : sx_S) (K : Int → sx_S → Prop), cx_I s → (0 ≤ a0 ∧ a0 < s.1 22 2 ∧ a0 < 5) → K (s.2.1 25 a0.toNat) s → sx_C sL sx d 17 [.inr (.inl 18), .inl a0] s K := by
  intro a0 s K hI p0 hK
  obtain ⟨d, rfl⟩ : ∃ e, d = e + 2 := ⟨d - 2, by omega⟩
  exact sx_meth (wr := true) (n := 400) hsL (e := eX1_unknownRoot) rfl (w_dw_ur (Q := fun _ _ _ => False) (c_dv_tot hsL (d + 1) (by omega)) hI p0 hK)
theorem w_dw_nu {CALL : sx_Ca} {sL : Nat} {sx : Nat → Int32} {Q : Nat → sx_L → sx_S → Prop} {R : Int → sx_S → Prop} {s : sx_S} {G1 G2 G3 : sx_S → Prop} (h_fill : ∀ K : Int → sx_S → Prop, (∀ t, G1 t → K 0 t) → CALL 219 [.inr (.inl 63), .inl (-1)] (sx_uf (sx_uf s.1 55 11 (-1)) 55 8 0, s.2) K) (h_rel : ∀ t, G1 t → ∀ K : Int → sx_S → Prop, (∀ z u, G2 u → K z u) → CALL 45 [.inr (.inl 29), .inl 0] t K) (h_clr : ∀ t, G2 t → ∀ K : Int → sx_S → Prop, (∀ z u, G3 u → K z u) → CALL 58 [.inr (.inl 56)] t K) (h_unk : ∀ t, G3 t → ∀ K : Int → sx_S → Prop, K (s.1 22 2) t → CALL 15 [.inr (.inl 18)] t K) (hI : cx_I s) (pn : 0 ≤ s.1 22 2 ∧ s.1 22 2 ≤ 5) (hQ : ∀ t, G3 t → Q 43 [(0, .inr (.inl 55)), (1, .inl (s.1 22 2 - 1))] t) : sx_wp true sL sx eX10_numberUnknowns CALL [(43, [0, 1]), (73, [0, 1])] Q R 400 0 (sx_argsF 0 [.inr (.inl 55)]) [] s := by
  have zzy : sx_w true (s.1 22 2 - 1) = s.1 22 2 - 1 := px_wid (by omega) (by omega)
  repeat' (first | (with_reducible (rintro _ rfl)) | (with_reducible intro _) | (refine And.intro ?_ ?_) | (refine h_fill _ (fun t1 zz1 => ?_)) | (refine h_rel t1 zz1 _ (fun z2 t2 zz2 => ?_)) | (refine h_clr t2 zz2 _ (fun z3 t3 zz3 => ?_)) | (refine h_unk t3 zz3 _ ?_))
  all_goals (try dsimp only at *)
  all_goals (first | trivial | assumption | omega | (exfalso; omega) | (have zz9 := hQ t3 zz3; rw [← zzy] at zz9; exact zz9) | skip)
theorem w_dw_nu43 {CALL : sx_Ca} {sL : Nat} {sx : Nat → Int32} {Q : Nat → sx_L → sx_S → Prop} {R : Int → sx_S → Prop} (h_push : ∀ (a0 a1 a2 a3 : Int) (s : sx_S) (R : Int → sx_S → Prop), cx_I s → s.1 56 6 < 512 → (-2147483648 ≤ a0 ∧ a0 ≤ 2147483647) → (-2147483648 ≤ a1 ∧ a1 ≤ 2147483647) → (-2147483648 ≤ a2 ∧ a2 ≤ 2147483647) → (-2147483648 ≤ a3 ∧ a3 ≤ 2147483647) → (∀ z t, cx_I t → cx_F [(56, 62)] s t → dv_pu 56 (a0, a1, -1, -1, a2, a3) s t → R z t) → CALL 60 [.inr (.inl 56), .inl a0, .inl a1, .inl a2, .inl a3] s R) {s : sx_S} {x1 w : Int} (h_ur : 0 ≤ x1 → ∀ K : Int → sx_S → Prop, K w s → CALL 17 [.inr (.inl 18), .inl x1] s K) (hI : cx_I s) (q1 : -1 ≤ x1 ∧ x1 ≤ 4) (qw : -2147483648 ≤ w ∧ w ≤ 2147483647) (hN : s.1 56 6 < 512) (hQ1 : x1 < 0 → Q 73 [(0, .inr (.inl 55)), (1, .inl 0)] s) (hQ2 : 0 ≤ x1 → ∀ t, cx_I t → cx_F [(56, 62)] s t → dv_pu 56 (w, -1, -1, -1, 0, 0) s t → Q 43 [(0, .inr (.inl 55)), (1, .inl (x1 - 1))] t) : sx_wp true sL sx eX10_numberUnknowns CALL [(43, [0, 1]), (73, [0, 1])] Q R 400 43 [(0, .inr (.inl 55)), (1, .inl x1)] [] s := by
  have zzy : sx_w true (x1 + (-1)) = x1 - 1 := by rw [px_wid (by omega) (by omega)]; omega
  repeat' (first | (with_reducible (rintro _ rfl)) | (with_reducible intro _) | (refine And.intro ?_ ?_) | (refine h_ur (by omega) _ ?_) | (refine h_push _ _ _ _ s _ hI hN qw (by omega) (by omega) (by omega) (fun z t t1 t2 t3 => ?_)))
  all_goals (try dsimp only at *)
  all_goals (first | trivial | assumption | omega | (exfalso; omega) | (exact hQ1 (by omega)) | (have zz9 := hQ2 (by omega) _ t1 t2 t3; rw [← zzy] at zz9; exact zz9) | skip)
theorem w_dw_nu73 {CALL : sx_Ca} {sL : Nat} {sx : Nat → Int32} {Q : Nat → sx_L → sx_S → Prop} {R : Int → sx_S → Prop} (h_emp : ∀ (s : sx_S) (K : Int → sx_S → Prop), cx_I s → (∀ z : Int, (0 ≤ z ∧ z ≤ 1) → (s.1 56 6 = 0 → z = 1) → (s.1 56 6 ≠ 0 → z = 0) → K z s) → CALL 59 [.inr (.inl 56)] s K) {s : sx_S} {x1 : Int} {G : sx_S → Prop} (h_ns : s.1 56 6 ≠ 0 → ∀ K : Int → sx_S → Prop, (∀ t, G t → K 0 t) → CALL 125 [.inr (.inl 55)] s K) (hI : cx_I s) (q1 : 0 ≤ x1 ∧ x1 < 1000000) (hK : s.1 56 6 = 0 → R 0 s) (hQ : s.1 56 6 ≠ 0 → ∀ t, G t → Q 73 [(0, .inr (.inl 55)), (1, .inl (x1 + 1))] t) : sx_wp true sL sx eX10_numberUnknowns CALL [(43, [0, 1]), (73, [0, 1])] Q R 400 73 [(0, .inr (.inl 55)), (1, .inl x1)] [] s := by
  have zzy : sx_w true (x1 + 1) = x1 + 1 := px_wid (by omega) (by omega)
  repeat' (first | (with_reducible (rintro _ rfl)) | (with_reducible intro _) | (refine And.intro ?_ ?_) | (refine h_emp s _ hI (fun v v0 v1 v2 => ?_)) | (refine h_ns (by omega) _ (fun t zzt => ?_)))
  all_goals (try dsimp only at *)
  all_goals (first | trivial | assumption | omega | (exfalso; omega) | (exact hK (by omega)) | (have zz9 := hQ (by omega) _ zzt; rw [← zzy] at zz9; exact zz9) | skip)
/-- the roots of the unknowns: before all their ARGs -/
def wd_R (S : vx_S) (th : Int → rf_N) (s : sx_S) (l : List rf_N) : Prop := True → s.1 22 2 = (l.length : Int) ∧ ∀ (k : Nat) A, l[k]? = some A → dv_at s S.2.2.2.2 A (s.2.1 25 k) ∧ wd_sd S 0 A [] ∧ (vx_lh A ≤ 67 ∧ vx_hh A ≤ 20 ∧ vx_hz A ≤ 1024) ∧ ∀ a, wz_go (wd_v th S.2.2.2.2 (A, dv_lk [], 0)) a = wz_go (th (k : Int)) a
theorem wd_R_al {S : vx_S} {th : Int → rf_N} {s : sx_S} {l : List rf_N} (h : wd_R S th s l) : ∀ n, n ≤ l.length → wd_f th S.2.2.2.2 ((l.drop (l.length - n)).map (fun A => (A, dv_lk [], 0))) (wz_al th (l.length - n)) = wz_al th l.length
  | 0, _ => by
    rw [Nat.sub_zero, List.drop_length]
    rfl
  | n + 1, hn => by
    have hlt : l.length - (n + 1) < l.length := by omega
    rw [List.drop_eq_getElem_cons hlt]
    obtain ⟨_, h2⟩ := h trivial
    have h3 := (h2 _ _ (List.getElem?_eq_getElem hlt)).2.2.2
    show wd_f th S.2.2.2.2 ((l.drop (l.length - (n + 1) + 1)).map (fun A => (A, dv_lk [], 0))) (wz_go (wd_v th S.2.2.2.2 (l[l.length - (n + 1)], dv_lk [], 0)) (wz_al th (l.length - (n + 1)))) = _
    rw [h3, show l.length - (n + 1) + 1 = l.length - n by omega, show wz_go (th ((l.length - (n + 1) : Nat) : Int)) (wz_al th (l.length - (n + 1))) = wz_al th (l.length - (n + 1) + 1) from rfl, show l.length - (n + 1) + 1 = l.length - n by omega]
    exact wd_R_al h n (by omega)
def wd_rs (l : List rf_N) : List dv_K := l.map (fun A => ((A, []), 0, 0))
theorem wd_rs_it (l : List rf_N) : (wd_rs l).map wd_it = l.map (fun A => (A, dv_lk [], 0)) := by
  unfold wd_rs
  rw [List.map_map]
  rfl
theorem wd_rs_hz : ∀ (l : List rf_N), (∀ A ∈ l, vx_hz A ≤ 1024) → dv_hz (wd_rs l) ≤ 1024 * l.length
  | [], _ => Nat.le_refl _
  | A :: l, h => by
    have ih := wd_rs_hz l (fun B hB => h B (List.mem_cons_of_mem _ hB))
    have h1 := h A List.mem_cons_self
    show vx_hz A + dv_hz (wd_rs l) ≤ _
    rw [List.length_cons]
    omega
theorem wd_cs_le (s : sx_S) : wd_cs s ≤ 32 := by
  unfold wd_cs
  have : ∀ n, vx_sm (fun m => if s.2.1 63 m.toNat < 0 then 1 else 0) n ≤ n := fun n => by
    induction n with
    | zero => exact Nat.le_refl _
    | succ n ih =>
      rw [vx_sm_s]
      by_cases c : s.2.1 63 ((n : Nat) : Int).toNat < 0
      · rw [if_pos c]
        omega
      · rw [if_neg c]
        omega
  exact this 32
theorem wd_rs_ks {S : vx_S} : ∀ {l : List rf_N}, l.length ≤ 5 → (∀ A ∈ l, wd_sd S 0 A [] ∧ (vx_lh A ≤ 67 ∧ vx_hh A ≤ 20 ∧ vx_hz A ≤ 1024)) → wd_ks S 0 0 (wd_rs l)
  | [], _, _ => trivial
  | A :: l, h5, h => by
    rw [List.length_cons] at h5
    obtain ⟨h1, h2, h3, h4⟩ := h A List.mem_cons_self
    refine ⟨⟨h1, Int.le_refl _, fun _ => ⟨[], vx_wu_nil S A, ⟨h2, by show vx_hh A ≤ 26; omega, h4⟩, ?_, ?_, ?_⟩⟩, wd_rs_ks (by omega) (fun B hB => h B (List.mem_cons_of_mem _ hB))⟩
    · show (0 : Int) + (vx_lh A : Int) ≤ 134 + ((0 : Nat) : Int) + (vx_lc S [] : Int)
      have e : vx_lc S [] = 0 := rfl
      omega
    · show (0 : Int) + (vx_lh A : Int) ≤ 1000 + 67 * (vx_ls (vx_rw S) [] : Int)
      have e : vx_ls (vx_rw S) [] = 0 := rfl
      omega
    · have e : vx_ls (vx_rw S) [] = 0 := rfl
      have e2 : (wd_rs l).length = l.length := by unfold wd_rs; rw [List.length_map]
      rw [e]
      show (wd_rs l).length + 3 * vx_hh A ≤ _
      rw [e2]
      omega
theorem c_dw_nu {tv tc : Int → rf_T} {n0 : Int} {Qs : (Int → rf_N) → Prop} {th : Int → rf_N} {rk : Int → Nat} {sL : Nat} {sx : Nat → Int32} (hsL : sL ≤ 3072) (d : Nat) (hd : 9 ≤ d) : ∀ (S : vx_S) (PR : Int → List (Int × Int)) (tm : Int → Int → rf_T) (l : List rf_N) (s : sx_S) (K : Int → sx_S → Prop), dv_G tv tc n0 Qs s S PR tm [] [] → vx_So S th → (∀ m, S.2.2.2.1 m = none → th m = vx_gn S.2.2.1 m) → vx_rk S rk → l.length ≤ 5 → wd_R S th s l → (∀ u, cx_I u → cx_F [(29, 32), (55, 64)] s u → u.1 55 11 = -1 → dv_G tv tc n0 Qs u S PR tm [] [] → wd_N u S (wz_al th l.length) → K 0 u) → sx_C sL sx d 124 [.inr (.inl 55)] s K := by
  intro S PR tm l s K hG hS ho hrk hl5 hR hK
  obtain ⟨g1, g2, g3, g4, _⟩ := hG trivial
  obtain ⟨⟨M1, M2, M3, M5⟩, M4⟩ := g2 trivial
  obtain ⟨R1, R2⟩ := hR trivial
  obtain ⟨d, rfl⟩ : ∃ e, d = e + 2 := ⟨d - 2, by omega⟩
  have hI1 : cx_I (sx_uf (sx_uf s.1 55 11 (-1)) 55 8 0, s.2) := cx_I_uf rfl rfl (cx_I_uf rfl rfl g1 (by decide) (by decide)) (by decide) (by decide)
  have f22 : ∀ (t : sx_S), cx_F [(29, 32), (55, 64)] s t → t.1 22 2 = s.1 22 2 := fun t hF => by rw [(hF.same 22 rfl).1]
  have hRt : ∀ (t : sx_S), cx_F [(29, 32), (55, 64)] s t → ∀ (k : Nat) A, l[k]? = some A → dv_at t S.2.2.2.2 A (s.2.1 25 k) := fun t hF k A hA => dv_at_fr (Int.le_refl _) (dv_nf_F (s.1 11 6) hF (by decide)) (R2 k A hA).1
  refine sx_methL (wr := true) (n := 400) (n' := 400) (stop := [(43, [0, 1]), (73, [0, 1])]) (fun nn pc ls u => (pc = 43 ∧ ∃ x1 : Nat, ls = [(0, .inr (.inl 55)), (1, .inl ((x1 : Int) - 1))] ∧ x1 ≤ l.length ∧ (cx_I u ∧ cx_F [(29, 32), (55, 64)] s u ∧ u.1 55 11 = -1 ∧ u.1 55 8 = 0 ∧ u.1 29 3 = 0) ∧ (∀ j : Nat, j < 32 → u.2.1 63 j = -1) ∧ wd_ws u S.2.2.2.2 (u.1 29 3) (wd_rs (l.drop x1)) ∧ u.1 56 6 = ((l.length - x1 : Nat) : Int) ∧ nn = 2000000 + x1) ∨ (pc = 73 ∧ ∃ (x1 : Nat) (a : List (Int × List Int)) (ws : List dv_K), ls = [(0, .inr (.inl 55)), (1, .inl (x1 : Int))] ∧ wd_K tv tc n0 Qs th rk 0 (wz_al th l.length) u S PR tm a [] ws ∧ cx_F [(29, 32), (55, 64)] s u ∧ u.1 55 11 = -1 ∧ x1 + wd_ms u ws ≤ 1000 + 1024 * 5 + 1025 * 32 ∧ nn = wd_ms u ws)) hsL (e := eX10_numberUnknowns) rfl ?_ ?_
  · refine w_dw_nu (G1 := fun t => cx_I t ∧ cx_F [(63, 63)] (sx_uf (sx_uf s.1 55 11 (-1)) 55 8 0, s.2) t ∧ t.1 = sx_uf (sx_uf s.1 55 11 (-1)) 55 8 0 ∧ ∀ j : Nat, j < 32 → t.2.1 63 j = -1) (G2 := fun t => cx_I t ∧ cx_F [(29, 32), (55, 64)] s t ∧ t.1 55 11 = -1 ∧ t.1 55 8 = 0 ∧ t.1 29 3 = 0 ∧ ∀ j : Nat, j < 32 → t.2.1 63 j = -1) (G3 := fun t => cx_I t ∧ cx_F [(29, 32), (55, 64)] s t ∧ t.1 55 11 = -1 ∧ t.1 55 8 = 0 ∧ t.1 29 3 = 0 ∧ (∀ j : Nat, j < 32 → t.2.1 63 j = -1) ∧ t.1 56 6 = 0) (fun K' hK' => c_dv_fill63 hsL (d + 1) (by omega) (-1) _ K' hI1 (by omega) (fun t t1 t2 t3 t4 => hK' t ⟨t1, t2, t3, t4⟩)) ?_ ?_ ?_ g1 (by omega) (fun t ht => ?_)
    · rintro t ⟨t1, t2, t3, t4⟩ K' hK'
      have h29 := t1.fld 29 3 (by decide) rfl
      refine c_dv_rel hsL (d + 1) (by omega) 0 t K' t1 (by omega) (fun z u u1 u2 u3 => hK' z u ⟨u1, cx_F_step u2 rfl (cx_F_step t2 rfl (cx_F_uf rfl (cx_F_uf rfl (cx_F_refl _ _)))), ?_, ?_, u3 (by omega) (by omega), fun j hj => by rw [(u2.same 63 rfl).2]; exact t4 j hj⟩)
      · rw [(u2.same 55 rfl).1, t3, sx_uf_if, if_neg (fun cc => absurd cc.2 (by decide)), sx_uf_if, if_pos ⟨rfl, rfl⟩]
      · rw [(u2.same 55 rfl).1, t3, sx_uf_if, if_pos ⟨rfl, rfl⟩]
    · rintro t ⟨t1, t2, t3, t4, t5, t6⟩ K' hK'
      exact c_dv_pclear56 hsL (d + 1) (by omega) t K' t1 (fun z u u1 u2 u3 => hK' z u ⟨u1, cx_F_step u2 rfl t2, by rw [(u2.same 55 rfl).1]; exact t3, by rw [(u2.same 55 rfl).1]; exact t4, by rw [(u2.same 29 rfl).1]; exact t5, fun j hj => by rw [(u2.same 63 rfl).2]; exact t6 j hj, u3⟩)
    · rintro t ⟨t1, t2, _⟩ K' hK'
      refine c_dv_unk hsL (d + 1) (by omega) t K' t1 (fun z hz => ?_)
      rw [hz, f22 t t2]
      exact hK'
    · obtain ⟨t1, t2, t3, t4, t5, t6, t7⟩ := ht
      refine ⟨_, Or.inl ⟨rfl, l.length, ?_, Nat.le_refl _, ⟨t1, t2, t3, t4, t5⟩, t6, ?_, ?_, rfl⟩⟩
      · rw [R1]
      · rw [List.drop_length]
        trivial
      · rw [t7, Nat.sub_self]
        rfl
  · rintro nn pc ls u (⟨rfl, x1, rfl, h1, ⟨u1, u2, u3, u4, u5⟩, u6, u7, u8, rfl⟩ | ⟨rfl, x1, a, ws, rfl, u1, u2, u3, u4, rfl⟩)
    · by_cases hx : x1 = 0
      · subst hx
        refine w_dw_nu43 (w := 0) (c_dv_push56 hsL (d + 1) (by omega)) (fun q => absurd q (by omega)) u1 (by omega) (by omega) (by omega) (fun _ => ?_) (fun q => absurd q (by omega))
        rw [List.drop_zero] at u7
        have hN : wd_N u S [] := fun _ => ⟨u4, List.nodup_nil, fun p hp => absurd hp List.not_mem_nil, fun m m0 m1 => ⟨fun _ => Or.inl ⟨u6 m.toNat (by omega), List.not_mem_nil⟩, fun _ => by rw [u6 m.toNat (by omega)]; omega⟩⟩
        have hms : dv_hz (wd_rs l) ≤ 1024 * l.length := wd_rs_hz l (fun A hA => by
          obtain ⟨i, e1, e2⟩ := List.getElem_of_mem hA
          exact (R2 i A (by rw [List.getElem?_eq_getElem e1, e2])).2.2.1.2.2)
        have hcs := wd_cs_le u
        refine ⟨wd_ms u (wd_rs l), ?_, Or.inr ⟨rfl, 0, [], wd_rs l, rfl, fun _ => ⟨wd_G_F hG u1 (cx_F_step u2 rfl (cx_F_refl _ _)), ⟨u7, ?_⟩, hN, fun _ => ⟨?_, fun m hm => ?_⟩, wd_rs_ks hl5 (fun A hA => ?_), hS, ho, hrk, by omega⟩, u2, u3, ?_, rfl⟩⟩
        · unfold wd_ms
          omega
        · rw [u8]
          unfold wd_rs
          rw [List.length_map]
          rfl
        · show wd_f th S.2.2.2.2 ((wd_rs l).map wd_it) [] = _
          rw [wd_rs_it]
          have := wd_R_al hR l.length (Nat.le_refl _)
          rw [Nat.sub_self, List.drop_zero] at this
          exact this
        · have := hm.2.2
          rw [u6 m.toNat (by have := hm.1; omega)] at this
          omega
        · obtain ⟨i, e1, e2⟩ := List.getElem_of_mem hA
          obtain ⟨_, c2, c3, _⟩ := R2 i A (by rw [List.getElem?_eq_getElem e1, e2])
          exact ⟨c2, c3⟩
        · unfold wd_ms
          omega
      · have hlt : x1 - 1 < l.length := by omega
        have hA := hRt u u2 (x1 - 1) l[x1 - 1] (List.getElem?_eq_getElem hlt)
        have hz := dv_at_z hA
        have r6 := u1.fld 11 6 (by decide) rfl
        have e25 : u.2.1 25 = s.2.1 25 := (u2.same 25 rfl).2
        refine w_dw_nu43 (w := s.2.1 25 (x1 - 1)) (c_dv_push56 hsL (d + 1) (by omega)) (fun _ K' hK' => ?_) u1 (by omega) (by omega) (by omega) (fun q => absurd q (by omega)) (fun _ t t1 t2 t3 => ?_)
        · refine c_dw_ur hsL (d + 1) (by omega) _ u K' u1 ⟨by omega, by rw [f22 u u2, R1]; omega, by omega⟩ ?_
          rw [show ((x1 : Int) - 1).toNat = x1 - 1 by omega, e25]
          exact hK'
        · obtain ⟨s1, s2, s3, s4, s5, s6, s7, s8⟩ := t3 trivial
          have ix : (u.1 56 6).toNat = (wd_rs (l.drop x1)).length := by
            unfold wd_rs
            rw [List.length_map, List.length_drop]
            omega
          rw [ix] at s3 s4 s5 s6 s7 s8
          have nf2 : dv_nf (u.1 11 6) S.2.2.2.2 S.2.2.2.2 u t := dv_nf_F _ t2 (by decide)
          have t29 : t.1 29 3 = 0 := by rw [(t2.same 29 rfl).1]; exact u5
          refine ⟨2000000 + (x1 - 1), by omega, Or.inl ⟨rfl, x1 - 1, ?_, by omega, ⟨t1, cx_F_step t2 rfl u2, by rw [(t2.same 55 rfl).1]; exact u3, by rw [(t2.same 55 rfl).1]; exact u4, t29⟩, fun j hj => by rw [(t2.same 63 rfl).2]; exact u6 j hj, ?_, ?_, rfl⟩⟩
          · rw [show ((x1 - 1 : Nat) : Int) - 1 = (x1 : Int) - 1 - 1 by omega]
          · rw [List.drop_eq_getElem_cons hlt, show x1 - 1 + 1 = x1 by omega]
            refine ⟨⟨by show (0 : Int) ≤ t.1 29 3; omega, Int.le_refl _⟩, ⟨?_, ?_⟩, ⟨s7, s8⟩, ?_⟩
            · show dv_at t S.2.2.2.2 l[x1 - 1] (t.2.1 57 (wd_rs (l.drop x1)).length)
              rw [s3]
              exact dv_at_fr (Int.le_refl _) nf2 hA
            · show dv_c t [] 0 (t.2.1 58 (wd_rs (l.drop x1)).length)
              rw [s4]
              rfl
            · have u7' : wd_ws u S.2.2.2.2 0 (wd_rs (l.drop x1)) := by
                rw [u5] at u7
                exact u7
              refine wd_ws_fr (Int.le_refl _) nf2 (fun i hi => by have hi' : (i : Int) < 0 := hi; omega) (fun i hi => ?_) u7'
              have hi' : i < (wd_rs (l.drop x1)).length := hi
              obtain ⟨o1, o2, _, _, o5, o6⟩ := s2 i (by omega)
              exact ⟨o1, o2, o5, o6⟩
          · rw [s1, u8]
            omega
    · obtain ⟨hGu, ⟨x1', x2⟩, yN, yP, yks, _⟩ := u1 trivial
      obtain ⟨z1, _⟩ := hGu trivial
      refine w_dw_nu73 (G := fun t => ∃ a' ws', wd_K tv tc n0 Qs th rk 0 (wz_al th l.length) t S PR tm a' [] ws' ∧ cx_F [(29, 32), (55, 64)] s t ∧ t.1 55 11 = -1 ∧ wd_ms t ws' < wd_ms u ws) (c_dv_pempty56 hsL (d + 1) (by omega)) (fun hne K' hK' => ?_) z1 (by omega) (fun h0 => ?_) (fun hne t ht => ?_)
      · cases ws with
        | nil =>
          exfalso
          exact hne x2
        | cons k ws => exact c_dw_ns hsL (d + 1) (by omega) S PR tm a k ws u K' u1 (fun t a' ws' c1 c2 c3 c4 => hK' t ⟨a', ws', c1, cx_F_step c2 rfl u2, c3.trans u3, c4⟩)
      · have ew : ws = [] := by
          cases ws with
          | nil => rfl
          | cons k ws =>
            rw [List.length_cons] at x2
            omega
        subst ew
        have ea : a = wz_al th l.length := (yP trivial).1
        rw [ea] at yN
        exact hK u z1 u2 u3 hGu yN
      · obtain ⟨a', ws', c1, c2, c3, c4⟩ := ht
        exact ⟨wd_ms t ws', c4, Or.inr ⟨rfl, x1 + 1, a', ws', by rw [show ((x1 + 1 : Nat) : Int) = (x1 : Int) + 1 by omega], c1, c2, c3, by omega, rfl⟩⟩
