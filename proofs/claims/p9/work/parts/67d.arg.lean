section
/-! ===== the desk's checker: an ARG ===== -/
theorem w_ag {CALL : sx_Ca} {sL : Nat} {sx : Nat → Int32} {Q : Nat → sx_L → sx_S → Prop} {R : Int → sx_S → Prop} {b : Nat → Int} {n : Int} (h_kd : ∀ (t0 : Int) (s : sx_S) (K : Int → sx_S → Prop), cx_I s → (0 ≤ t0 ∧ t0 ≤ 1000) → (px_TK b n s) → (px_lv b n t0.toNat) → (∀ z : Int, (z = px_K b n t0.toNat) → K z s) → CALL 101 [.inr (.inl 2), .inl t0] s K) {s : sx_S} {a0 : Int} {Zt : Int → sx_S → Prop} (hI : cx_I s) (hT : px_TK b n s) (hl : px_lv b n (s.1 18 11).toNat) (h0 : 0 ≤ s.1 18 11 ∧ s.1 18 11 ≤ 900) (ha : 0 ≤ a0 ∧ a0 ≤ 30) (h_n0 : px_K b n (s.1 18 11).toNat = 2 → ∀ K : Int → sx_S → Prop, (∀ z t, R z t → K z t) → CALL 29 [.inr (.inl 18), .inl a0, .inl 0] s K) (h_tm : px_K b n (s.1 18 11).toNat ≠ 2 → ∀ K : Int → sx_S → Prop, (∀ z t, Zt z t → K z t) → CALL 27 [.inr (.inl 18), .inl (a0 + 1)] (sx_uf s.1 18 11 (s.1 18 11 + 1), s.2) K) (hZ : ∀ z t, Zt z t → cx_I t) (hKt : ∀ z t, Zt z t → ∀ w, w = sx_w true (t.1 18 11 + 1) → R z (sx_uf t.1 18 11 w, t.2)) : sx_wp true sL sx eX1_argument CALL [] Q R 400 0 (sx_argsF 0 [.inr (.inl 18), .inl a0]) [] s := by
  have zzy : sx_w true (s.1 18 11 + 1) = s.1 18 11 + 1 := px_wid (by omega) (by omega)
  have zza : sx_w true (a0 + 1) = a0 + 1 := px_wid (by omega) (by omega)
  rw [← zzy, ← zza] at h_tm
  have zzr := px_K_r b n (s.1 18 11).toNat
  have zzk : ∀ K : Int → sx_S → Prop, K (px_K b n (s.1 18 11).toNat) s → CALL 101 [.inr (.inl 2), .inl (s.1 18 11)] s K := fun K hK => h_kd _ _ _ hI (by omega) hT hl (fun z z1 => by rw [z1]; exact hK)
  by_cases hk : px_K b n (s.1 18 11).toNat = 2
  · have h_n0' := h_n0 hk
    clear h_n0 h_tm
    repeat' (first | (with_reducible (rintro _ rfl)) | (with_reducible intro _) | (refine And.intro ?_ ?_) | (refine zzk _ ?_) | (refine h_n0' _ ?_))
    all_goals (try dsimp only at *)
    all_goals (first | trivial | assumption | omega | (exfalso; omega) | skip)
  · have h_tm' := h_tm hk
    clear h_n0 h_tm
    repeat' (first | (with_reducible (rintro _ rfl)) | (with_reducible intro _) | (refine And.intro ?_ ?_) | (refine zzk _ ?_) | (refine h_tm' _ ?_))
    all_goals (try dsimp only at *)
    all_goals (first | trivial | assumption | omega | (exfalso; omega) | (exact hZ _ _ (by assumption)) | (exact hKt _ _ (by assumption) _ rfl) | skip)
/-- one token before, one behind -/
theorem dz_R_br {b : Nat → Int} {n : Int} {C M Γ : List (Int × qx_T)} {ρ : List Int} {nn : px_N} {s t : sx_S} {c B V z w : Int} {x : qx_T} {W : rf_N} (hI : cx_I s) (hT : dx_TI s) (h0 : 0 ≤ s.1 18 11 ∧ s.1 18 11 ≤ 900) (hc : 0 ≤ c ∧ c ≤ 900) (h : dz_R b n C M nn Γ ρ (sx_uf s.1 18 11 (s.1 18 11 + 1), s.2) t c B V z x W) (hw : w = sx_w true (t.1 18 11 + 1)) : dz_R b n C M nn Γ ρ s (sx_uf t.1 18 11 w, t.2) (c + 1) B V z x W := fun _ => by
  obtain ⟨b1, b2, b3, b4, ⟨b5, b6⟩, b7, b8, b9, b10⟩ := h trivial
  have ew : w = c + 1 := by rw [hw, b2, px_wid (by omega) (by omega)]
  subst ew
  have i1 : cx_I (sx_uf s.1 18 11 (s.1 18 11 + 1), s.2) := cx_I_uf rfl rfl hI (by omega) (by omega)
  have g1 : dz_G (s.1 11 6) s (sx_uf s.1 18 11 (s.1 18 11 + 1), s.2) := dz_G_uf i1 hT rfl
  have i2 : cx_I (sx_uf t.1 18 11 (c + 1), t.2) := cx_I_uf rfl rfl (dz_G_I b1) (by omega) (by omega)
  have g2 : dz_G (s.1 11 6) t (sx_uf t.1 18 11 (c + 1), t.2) := dz_G_uf i2 (dz_G_T b1) rfl
  have b1' : dz_G (s.1 11 6) (sx_uf s.1 18 11 (s.1 18 11 + 1), s.2) t := b1
  have b6' : dz_T (s.1 11 6) t W z := b6
  have e11 : sx_uf s.1 18 11 (s.1 18 11 + 1) 18 11 = s.1 18 11 + 1 := px_us _ _ _ _
  have b10' : t.1 8 2 ≤ s.1 8 2 + (c - sx_uf s.1 18 11 (s.1 18 11 + 1) 18 11) := b10
  refine ⟨dz_G_t g2 (dz_G_t b1' g1), px_uS, b3, dz_G_is g2 b4, ⟨b5, fun _ => b6' trivial⟩, ⟨b7.1, fun _ => b7.2 trivial⟩, b8, b9, ?_⟩
  show t.1 8 2 ≤ _
  omega
theorem st_dz_argument {sL : Nat} {sx : Nat → Int32} (hsL : sL ≤ 3072) (b : Nat → Int) (n : Int) (C M : List (Int × qx_T)) (f : Nat) (hf : f ≤ 20) {d : Nat} (hd : 14 ≤ d) (h_tm : ∀ (p c a0 : Int) (nn : px_N) (Γ : List (Int × qx_T)) (ρ : List Int) (s : sx_S) (R : Int → sx_S → Prop), cx_I s → a0 = 21 - ((f : Nat) : Int) → (Γ.length : Int) ≤ a0 → s.1 18 11 = p → 0 ≤ p → px_TM (px_K b n) f p nn c → px_ls nn → dz_E b n C M s → dz_SC s Γ ρ → px_lv b n c.toNat → (s.1 11 6 + 3 * (c - p) + 20 ≤ 1024 ∧ s.1 11 8 + 2 * (c - p) + 20 ≤ 512 ∧ s.1 8 2 + (c - p) ≤ 255) → (∀ z t x W B V, B ≤ 3 * (c - p) + 6 → V ≤ 2 * (c - p) + 2 → dz_R b n C M nn Γ ρ s t c B V z x W → R z t) → ((∀ x, ¬ (px_wt (px_SN b n) C M nn).1 Γ x) → ∀ t, cx_I t → t.1 18 9 = s.1 18 9 → R (-1) t) → sx_C sL sx (d + 1) 27 [.inr (.inl 18), .inl a0] s R) : ∀ (q e a0 : Int) (pp : px_N) (Γ : List (Int × qx_T)) (ρ : List Int) (s : sx_S) (R : Int → sx_S → Prop), cx_I s → a0 = 20 - ((f : Nat) : Int) → (Γ.length : Int) ≤ a0 → s.1 18 11 = q → 0 ≤ q → px_on (px_K b n) f q pp e → px_ls pp → dz_E b n C M s → dz_SC s Γ ρ → px_lv b n e.toNat → (s.1 11 6 + 3 * (e - q) + 14 ≤ 1024 ∧ s.1 11 8 + 2 * (e - q) + 16 ≤ 512 ∧ s.1 8 2 + (e - q) ≤ 255) → (∀ z t x W B V, B ≤ 3 * (e - q) + 2 * (qx_at x : Int) - 2 → V ≤ 2 * (e - q) + (qx_at x : Int) - 1 → dz_R b n C M pp Γ ρ s t e B V z x W → R z t) → ((∀ x, ¬ (px_wt (px_SN b n) C M pp).1 Γ x) → ∀ t, cx_I t → t.1 18 9 = s.1 18 9 → R (-1) t) → sx_C sL sx (d + 2) 31 [.inr (.inl 18), .inl a0] s R := by
  intro q e a0 pp Γ ρ s R hI p0 pg pq pq0 po pl hE hS hlv hr hK hX
  have hTK := ((hE trivial).1 trivial).2.2
  have hm := (hTK trivial).1
  have hqe : q < e := by
    rcases po with ⟨_, _, o⟩ | ⟨_, e', o1, _, o3⟩
    · omega
    · have := px_TM_le o1
      omega
  have hem := (px_TK_kd hTK (show 0 ≤ e by omega) hlv).2.2
  obtain ⟨d, rfl⟩ : ∃ d', d = d' + 1 := ⟨d - 1, by omega⟩
  rcases po with ⟨o1, o2, o3⟩ | ⟨o1, e', o2, o3, o4⟩
  · refine sx_meth (wr := true) (n := 400) hsL (e := eX1_argument) rfl (w_ag (Q := fun _ _ _ => False) (Zt := fun _ _ => False) (c_dx_kind hsL _ (by omega) b n) hI hTK (px_lv_le hlv (by omega)) (by omega) (by omega) ?_ ?_ (fun _ _ q => q.elim) ?_)
    · intro _ K hK'
      refine st_dz_named hsL b n C M f (by omega) 0 (fun q => absurd q (by decide)) q e a0 0 .leaf Γ ρ s K rfl hI p0 pg pq pq0 (Or.inr ⟨rfl, rfl, o3⟩) trivial hE hS hlv (fun q => absurd q (by decide)) (by omega) (fun z t x W B V _ c2 c3 => hK' z t (hK z t x W B V ?_ ?_ (by rw [o2]; exact c3))) (fun q' t t1 t2 => hK' _ t (hX (by rw [o2]; exact q') t t1 t2))
      · have := c2 rfl
        omega
      · have := c2 rfl
        omega
    · intro q'
      rw [pq] at q'
      exact absurd o1 q'
    · exact fun _ _ q => q.elim
  · have i1 : cx_I (sx_uf s.1 18 11 (s.1 18 11 + 1), s.2) := cx_I_uf rfl rfl hI (by omega) (by omega)
    have g1 : dz_G (s.1 11 6) s (sx_uf s.1 18 11 (s.1 18 11 + 1), s.2) := dz_G_uf i1 (hE trivial).2.2.2.1.1 rfl
    have l1 := px_TM_le o2
    refine sx_meth (wr := true) (n := 400) hsL (e := eX1_argument) rfl (w_ag (Q := fun _ _ _ => False) (Zt := fun z t => (∃ x W B V, B ≤ 3 * (e' - (q + 1)) + 6 ∧ V ≤ 2 * (e' - (q + 1)) + 2 ∧ dz_R b n C M pp Γ ρ (sx_uf s.1 18 11 (s.1 18 11 + 1), s.2) t e' B V z x W) ∨ (z = -1 ∧ (∀ x, ¬ (px_wt (px_SN b n) C M pp).1 Γ x) ∧ cx_I t ∧ t.1 18 9 = s.1 18 9)) (c_dx_kind hsL _ (by omega) b n) hI hTK (px_lv_le hlv (by omega)) (by omega) (by omega) ?_ ?_ ?_ ?_)
    · intro q'
      rw [pq, o1] at q'
      exact absurd q' (by decide)
    · intro _ K hK'
      refine h_tm (q + 1) e' (a0 + 1) pp Γ ρ _ K i1 (by omega) (by omega) (by rw [← pq]; exact px_uS) (by omega) o2 pl (dz_E_G hE g1) (dz_SC_G hS g1) (px_lv_le hlv (by omega)) ?_ (fun z t x W B V c1 c2 c3 => hK' z t (Or.inl ⟨x, W, B, V, c1, c2, c3⟩)) (fun q' t t1 t2 => hK' _ t (Or.inr ⟨rfl, q', t1, t2⟩))
      show s.1 11 6 + _ + _ ≤ _ ∧ s.1 11 8 + _ + _ ≤ _ ∧ s.1 8 2 + _ ≤ _
      omega
    · rintro z t (⟨x, W, B, V, c1, c2, c3⟩ | ⟨c1, c2, c3, c4⟩)
      · exact dz_G_I (c3 trivial).1
      · exact c3
    · rintro z t (⟨x, W, B, V, c1, c2, c3⟩ | ⟨c1, c2, c3, c4⟩) w hw
      · have xp := qx_at_pos x
        refine hK z _ x W B V (by omega) (by omega) ?_
        rw [o4]
        exact dz_R_br hI (hE trivial).2.2.2.1.1 (by omega) (by omega) c3 hw
      · rw [c1]
        have t11 := c3.fld 18 11 (by decide) rfl
        refine hX c2 _ (cx_I_uf rfl rfl c3 ?_ ?_) c4
        · rw [hw, sx_w_t]
          omega
        · rw [hw, sx_w_t]
          omega
end
section
/-! ===== the desk's checker: abstractions, TERMs ===== -/
theorem w_ab {CALL : sx_Ca} {sL : Nat} {sx : Nat → Int32} {Q : Nat → sx_L → sx_S → Prop} {R : Int → sx_S → Prop} {s : sx_S} {a0 : Int} {Z1 : Int → sx_S → Prop} (hI : cx_I s) (h9 : s.1 18 9 < 21) (h11 : 0 ≤ s.1 18 11 ∧ s.1 18 11 ≤ 900) (ha : 0 ≤ a0 ∧ a0 ≤ 30) (h_ty : ∀ K : Int → sx_S → Prop, (∀ z t, Z1 z t → K z t) → CALL 25 [.inr (.inl 18), .inl (a0 + 1)] (sx_uf s.1 18 11 (s.1 18 11 + 3), sx_ua s.2.1 27 (s.1 18 9).toNat (s.1 18 11 + 1), s.2.2) K) (hQ : ∀ z t, Z1 z t → Q 47 [(0, .inr (.inl 18)), (1, .inl a0), (2, .inl z)] t) : sx_wp true sL sx eX1_abstraction CALL [(47, [0, 1, 2]), (66, [0, 1, 2, 3]), (95, [0, 2, 3, 4])] Q R 400 0 (sx_argsF 0 [.inr (.inl 18), .inl a0]) [] s := by
  have zz9 := hI.fld 18 9 (by decide) rfl
  have zzy : sx_w true (s.1 18 11 + 1) = s.1 18 11 + 1 := px_wid (by omega) (by omega)
  have zzz : sx_w true (s.1 18 11 + 3) = s.1 18 11 + 3 := px_wid (by omega) (by omega)
  have zza : sx_w true (a0 + 1) = a0 + 1 := px_wid (by omega) (by omega)
  have zzI : cx_I (s.1, sx_ua s.2.1 27 (s.1 18 9).toNat (sx_w true (s.1 18 11 + 1)), s.2.2) := cx_I_ua rfl rfl hI (by omega) (by omega)
  rw [← zzy, ← zzz, ← zza] at h_ty
  repeat' (first | (with_reducible (rintro _ rfl)) | (with_reducible intro _) | (refine And.intro ?_ ?_) | (refine h_ty _ ?_))
  all_goals (try dsimp only at *)
  all_goals (first | trivial | assumption | omega | (exfalso; omega) | (exact hQ _ _ (by assumption)) | skip)
theorem w_ab_47 {CALL : sx_Ca} {sL : Nat} {sx : Nat → Int32} {Q : Nat → sx_L → sx_S → Prop} {R : Int → sx_S → Prop} {s : sx_S} {a0 x2 : Int} {Z2 : Int → sx_S → Prop} (hI : cx_I s) (h11 : 0 ≤ s.1 18 11 ∧ s.1 18 11 ≤ 900) (h_va : ∀ K : Int → sx_S → Prop, (∀ v u, Z2 v u → K v u) → CALL 86 [.inr (.inl 11), .inl x2] (sx_uf s.1 18 11 (s.1 18 11 + 1), s.2) K) (hQ : ∀ v u, Z2 v u → Q 66 [(0, .inr (.inl 18)), (1, .inl a0), (2, .inl x2), (3, .inl v)] u) : sx_wp true sL sx eX1_abstraction CALL [(47, [0, 1, 2]), (66, [0, 1, 2, 3]), (95, [0, 2, 3, 4])] Q R 400 47 [(0, .inr (.inl 18)), (1, .inl a0), (2, .inl x2)] [] s := by
  have zzy : sx_w true (s.1 18 11 + 1) = s.1 18 11 + 1 := px_wid (by omega) (by omega)
  rw [← zzy] at h_va
  repeat' (first | (with_reducible (rintro _ rfl)) | (with_reducible intro _) | (refine And.intro ?_ ?_) | (refine h_va _ ?_))
  all_goals (try dsimp only at *)
  all_goals (first | trivial | assumption | omega | (exfalso; omega) | (exact hQ _ _ (by assumption)) | skip)
theorem w_ab_66 {CALL : sx_Ca} {sL : Nat} {sx : Nat → Int32} {Q : Nat → sx_L → sx_S → Prop} {R : Int → sx_S → Prop} {s : sx_S} {a0 x2 x3 : Int} {Z3 : Int → sx_S → Prop} (hI : cx_I s) (h9 : s.1 18 9 < 21) (ha : 0 ≤ a0 ∧ a0 ≤ 30) (r3 : -2147483648 ≤ x3 ∧ x3 ≤ 2147483647) (h_tm : ∀ K : Int → sx_S → Prop, (∀ y t, Z3 y t → K y t) → CALL 27 [.inr (.inl 18), .inl (a0 + 1)] (sx_uf s.1 18 9 (s.1 18 9 + 1), sx_ua s.2.1 28 (s.1 18 9).toNat x3, s.2.2) K) (hQ : ∀ y t, Z3 y t → Q 95 [(0, .inr (.inl 18)), (2, .inl x2), (3, .inl x3), (4, .inl y)] t) : sx_wp true sL sx eX1_abstraction CALL [(47, [0, 1, 2]), (66, [0, 1, 2, 3]), (95, [0, 2, 3, 4])] Q R 400 66 [(0, .inr (.inl 18)), (1, .inl a0), (2, .inl x2), (3, .inl x3)] [] s := by
  have zz9 := hI.fld 18 9 (by decide) rfl
  have zzy : sx_w true (s.1 18 9 + 1) = s.1 18 9 + 1 := px_wid (by omega) (by omega)
  have zza : sx_w true (a0 + 1) = a0 + 1 := px_wid (by omega) (by omega)
  have zzI : cx_I (s.1, sx_ua s.2.1 28 (s.1 18 9).toNat x3, s.2.2) := cx_I_ua rfl rfl hI (by omega) (by omega)
  rw [← zzy, ← zza] at h_tm
  repeat' (first | (with_reducible (rintro _ rfl)) | (with_reducible intro _) | (refine And.intro ?_ ?_) | (refine h_tm _ ?_))
  all_goals (try dsimp only at *)
  all_goals (first | trivial | assumption | omega | (exfalso; omega) | (exact hQ _ _ (by assumption)) | skip)
theorem w_ab_95 {CALL : sx_Ca} {sL : Nat} {sx : Nat → Int32} {Q : Nat → sx_L → sx_S → Prop} {R : Int → sx_S → Prop} {s : sx_S} {x2 x3 x4 : Int} {Z4 Z5 : Int → sx_S → Prop} (hI : cx_I s) (h9 : 1 ≤ s.1 18 9) (r4 : -1 ≤ x4 ∧ x4 ≤ 2000) (hf : x4 < 0 → R (-1) (sx_uf s.1 18 9 (s.1 18 9 - 1), s.2)) (h_ar : 0 ≤ x4 → ∀ K : Int → sx_S → Prop, (∀ z t, Z4 z t → K z t) → CALL 119 [.inr (.inl 8), .inl x2, .inl (s.1 18 12)] (sx_uf s.1 18 9 (s.1 18 9 - 1), s.2) K) (h_la : ∀ z t, Z4 z t → ∀ K : Int → sx_S → Prop, (∀ m u, Z5 m u → K m u) → CALL 89 [.inr (.inl 11), .inl x3, .inl x4] (sx_uf t.1 18 12 z, t.2) K) (hK : ∀ m u, Z5 m u → R m u) : sx_wp true sL sx eX1_abstraction CALL [(47, [0, 1, 2]), (66, [0, 1, 2, 3]), (95, [0, 2, 3, 4])] Q R 400 95 [(0, .inr (.inl 18)), (2, .inl x2), (3, .inl x3), (4, .inl x4)] [] s := by
  have zz9 := hI.fld 18 9 (by decide) rfl
  have zzy : sx_w true (s.1 18 9 - 1) = s.1 18 9 - 1 := px_wid (by omega) (by omega)
  have zzI : cx_I (sx_uf s.1 18 9 (sx_w true (s.1 18 9 - 1)), s.2) := cx_I_uf rfl rfl hI (by omega) (by omega)
  rw [← zzy] at hf h_ar
  by_cases hx : x4 < 0
  · have hf' := hf hx
    clear h_ar h_la
    repeat' (first | (with_reducible (rintro _ rfl)) | (with_reducible intro _) | (refine And.intro ?_ ?_) | (fail))
    all_goals (try dsimp only at *)
    all_goals (first | trivial | assumption | omega | (exfalso; omega) | skip)
  · have h_ar' := h_ar (by omega)
    clear h_ar hf
    repeat' (first | (with_reducible (rintro _ rfl)) | (with_reducible intro _) | (refine And.intro ?_ ?_) | (refine h_ar' _ ?_) | (refine h_la _ _ ?_ _ ?_))
    all_goals (try dsimp only at *)
    all_goals (first | trivial | assumption | omega | (exfalso; omega) | (exact hK _ _ (by assumption)) | skip)
theorem w_tm {CALL : sx_Ca} {sL : Nat} {sx : Nat → Int32} {Q : Nat → sx_L → sx_S → Prop} {R : Int → sx_S → Prop} {b : Nat → Int} {n : Int} (h_kd : ∀ (t0 : Int) (s : sx_S) (K : Int → sx_S → Prop), cx_I s → (0 ≤ t0 ∧ t0 ≤ 1000) → (px_TK b n s) → (px_lv b n t0.toNat) → (∀ z : Int, (z = px_K b n t0.toNat) → K z s) → CALL 101 [.inr (.inl 2), .inl t0] s K) {s : sx_S} {a0 : Int} (hI : cx_I s) (hT : px_TK b n s) (hl : px_lv b n (s.1 18 11).toNat) (h0 : 0 ≤ s.1 18 11 ∧ s.1 18 11 ≤ 900) (ha : 0 ≤ a0 ∧ a0 ≤ 20) (h_ab : px_K b n (s.1 18 11).toNat = 11 → ∀ K : Int → sx_S → Prop, (∀ z t, R z t → K z t) → CALL 28 [.inr (.inl 18), .inl a0] s K) (h_nm : px_K b n (s.1 18 11).toNat ≠ 11 → ∀ K : Int → sx_S → Prop, (∀ z t, R z t → K z t) → CALL 29 [.inr (.inl 18), .inl a0, .inl 1] s K) : sx_wp true sL sx eX1_term CALL [] Q R 400 0 (sx_argsF 0 [.inr (.inl 18), .inl a0]) [] s := by
  have zzr := px_K_r b n (s.1 18 11).toNat
  have zzk : ∀ K : Int → sx_S → Prop, K (px_K b n (s.1 18 11).toNat) s → CALL 101 [.inr (.inl 2), .inl (s.1 18 11)] s K := fun K hK => h_kd _ _ _ hI (by omega) hT hl (fun z z1 => by rw [z1]; exact hK)
  by_cases hk : px_K b n (s.1 18 11).toNat = 11
  · have h_ab' := h_ab hk
    clear h_ab h_nm
    repeat' (first | (with_reducible (rintro _ rfl)) | (with_reducible intro _) | (refine And.intro ?_ ?_) | (refine zzk _ ?_) | (refine h_ab' _ ?_))
    all_goals (try dsimp only at *)
    all_goals (first | trivial | assumption | omega | (exfalso; omega) | skip)
  · have h_nm' := h_nm hk
    clear h_ab h_nm
    repeat' (first | (with_reducible (rintro _ rfl)) | (with_reducible intro _) | (refine And.intro ?_ ?_) | (refine zzk _ ?_) | (refine h_nm' _ ?_))
    all_goals (try dsimp only at *)
    all_goals (first | trivial | assumption | omega | (exfalso; omega) | skip)
/-- one more is bound -/
theorem dz_SC_b {Γ : List (Int × qx_T)} {ρ : List Int} {s : sx_S} {tok x3 : Int} {x : qx_T} (hS : dz_SC s Γ ρ) (h27 : s.2.1 27 (s.1 18 9).toNat = tok) (ht : 0 ≤ tok ∧ tok < s.1 2 5) (h3 : 0 ≤ x3 ∧ x3 < s.1 11 8) (hx : dx_is s x (s.2.1 17 x3.toNat)) (hr : ∀ w ∈ ρ, w < x3) (h5 : qx_at x ≤ 5) : dz_SC (sx_uf s.1 18 9 (s.1 18 9 + 1), sx_ua s.2.1 28 (s.1 18 9).toNat x3, s.2.2) ((tok, x) :: Γ) (x3 :: ρ) := fun _ => by
  obtain ⟨⟨s1, s2⟩, s3, s4, s5, s6⟩ := hS trivial
  have e9 : ((sx_uf s.1 18 9 (s.1 18 9 + 1), sx_ua s.2.1 28 (s.1 18 9).toNat x3, s.2.2) : sx_S).1 18 9 = s.1 18 9 + 1 := px_uS
  refine ⟨⟨?_, ?_⟩, fun k hk => ?_, fun w hw => ?_, ⟨hr, s5⟩, fun q hq => ?_⟩
  · rw [e9, List.length_cons]
    omega
  · rw [List.length_cons, List.length_cons, s2]
  · rw [List.length_cons] at hk
    by_cases q : k < Γ.length
    · obtain ⟨e, e1, e2, e3, e4, e5⟩ := s3 k q
      refine ⟨e, ?_, e2, e3, ?_, ?_⟩
      · rw [List.length_cons, show Γ.length + 1 - 1 - k = (Γ.length - 1 - k) + 1 by omega, List.getElem?_cons_succ]
        exact e1
      · show sx_ua s.2.1 28 (s.1 18 9).toNat x3 28 k = _
        rw [sx_ua_if, if_pos rfl, if_neg (by omega), px_id_cons (by omega)]
        exact e4
      · rw [px_id_cons (by omega)]
        exact e5
    · have ek : k = Γ.length := by omega
      subst ek
      refine ⟨(tok, x), ?_, ?_, ht, ?_, ?_⟩
      · rw [List.length_cons, show Γ.length + 1 - 1 - Γ.length = 0 by omega]
        rfl
      · show s.2.1 27 Γ.length = tok
        rw [← h27, ← s1]
        rfl
      · show sx_ua s.2.1 28 (s.1 18 9).toNat x3 28 Γ.length = _
        rw [sx_ua_if, if_pos rfl, if_pos (by omega), ← s2, px_id_top]
      · rw [← s2, px_id_top]
        exact hx
  · rcases List.mem_cons.mp hw with rfl | hw
    · exact h3
    · exact s4 w hw
  · rcases List.mem_cons.mp hq with rfl | hq
    · exact h5
    · exact s6 q hq
/-- and no more -/
theorem dz_G_b {lo lo' : Int} {s u t : sx_S} {x3 : Int} (g1 : dz_G lo s u) (g2 : dz_G lo' (sx_uf u.1 18 9 (u.1 18 9 + 1), sx_ua u.2.1 28 (u.1 18 9).toNat x3, u.2.2) t) (hl : lo ≤ lo') : t.1 18 9 = s.1 18 9 + 1 ∧ dz_G lo s (sx_uf t.1 18 9 (t.1 18 9 - 1), t.2) := by
  obtain ⟨⟨a1, a2⟩, a3, ⟨a4, a5⟩, a6, ⟨a7, a8⟩, a9⟩ := g1 trivial
  obtain ⟨⟨b1, b2⟩, b3, ⟨b4, b5⟩, b6, ⟨b7, b8⟩, b9⟩ := g2 trivial
  have e1 : u.1 18 9 = s.1 18 9 := a3 9 rfl
  have e2 : t.1 18 9 = sx_uf u.1 18 9 (u.1 18 9 + 1) 18 9 := b3 9 rfl
  rw [px_us] at e2
  have s9 : 0 ≤ u.1 18 9 := (a1.fld 18 9 (by decide) rfl).1
  have t9 := b1.fld 18 9 (by decide) rfl
  have F1 : cx_F [(8, 18), (27, 28)] s ((sx_uf u.1 18 9 (u.1 18 9 + 1), sx_ua u.2.1 28 (u.1 18 9).toNat x3, u.2.2) : sx_S) := cx_F_uf rfl (cx_F_ua rfl a2)
  have F2 : cx_F [(8, 18), (27, 28)] s ((sx_uf t.1 18 9 (t.1 18 9 - 1), t.2) : sx_S) := cx_F_uf rfl (cx_F_step b2 rfl F1)
  refine ⟨by omega, fun _ => ⟨⟨cx_I_uf rfl rfl b1 (by omega) (by omega), F2⟩, fun k hk => ?_, ⟨fun i j => b4 i j, fun j => dx_tu_trans b5 (fun j => a5 j) j⟩, ?_, ⟨?_, fun j hj => ?_⟩, fun k hk => ?_⟩⟩
  · show sx_uf t.1 18 9 (t.1 18 9 - 1) 18 k = _
    rw [sx_uf_if]
    by_cases q : k = 9
    · rw [if_pos ⟨rfl, q⟩, q]
      omega
    · rw [if_neg (fun c => q c.2)]
      have b3' : t.1 18 k = sx_uf u.1 18 9 (u.1 18 9 + 1) 18 k := b3 k hk
      rw [b3', sx_uf_if, if_neg (fun c => q c.2)]
      exact a3 k hk
  · intro _
    obtain ⟨c1, c2⟩ := a6 trivial
    obtain ⟨d1, d2⟩ := b6 trivial
    have d1' : u.1 11 6 ≤ t.1 11 6 := d1
    refine ⟨by show s.1 11 6 ≤ t.1 11 6; omega, fun j hj => ?_⟩
    obtain ⟨c3, c4, c5, c6, c7⟩ := c2 j hj
    obtain ⟨d3, d4, d5, d6, d7⟩ := d2 j (by omega)
    exact ⟨d3.trans c3, d4.trans c4, d5.trans c5, d6.trans c6, d7.trans c7⟩
  · have b7' : u.1 11 8 ≤ t.1 11 8 := b7
    show s.1 11 8 ≤ t.1 11 8
    omega
  · have b8' : t.2.1 17 j = u.2.1 17 j := b8 j (by show (j : Int) < u.1 11 8; omega)
    exact b8'.trans (a8 j hj)
  · obtain ⟨c1, c2⟩ := a9 k hk
    obtain ⟨d1, d2⟩ := b9 k (by show (k : Int) < sx_uf u.1 18 9 (u.1 18 9 + 1) 18 9; rw [px_us]; omega)
    have d2' : t.2.1 28 k = sx_ua u.2.1 28 (u.1 18 9).toNat x3 28 k := d2
    rw [sx_ua_if, if_pos rfl, if_neg (by omega)] at d2'
    exact ⟨d1.trans c1, d2'.trans c2⟩

theorem dz_E_b {b : Nat → Int} {n : Int} {C M : List (Int × qx_T)} {s : sx_S} {x3 : Int} (h : dz_E b n C M s) : dz_E b n C M (sx_uf s.1 18 9 (s.1 18 9 + 1), sx_ua s.2.1 28 (s.1 18 9).toNat x3, s.2.2) := fun _ => by
  obtain ⟨e1, e2, e3, ⟨e4, e5⟩, e6, e7⟩ := h trivial
  have hF : cx_F [(18, 18), (28, 28)] s ((sx_uf s.1 18 9 (s.1 18 9 + 1), sx_ua s.2.1 28 (s.1 18 9).toNat x3, s.2.2) : sx_S) := cx_F_uf rfl (cx_F_ua rfl (cx_F_refl _ _))
  refine ⟨fun _ => ?_, fun _ => e2 trivial, fun _ => e3 trivial, ⟨fun i j => e4 i j, e5⟩, e6, e7⟩
  obtain ⟨a1, a2, a3⟩ := e1 trivial
  exact ⟨a1, a2, px_TK_F hF rfl rfl rfl rfl a3⟩
/-- with the variable bound -/
def dz_AB (p e : Int) (x : qx_T) (s : sx_S) (x2 x3 : Int) (u : sx_S) : Prop := True → dz_G (s.1 11 6) s u ∧ u.2.1 27 (s.1 18 9).toNat = p + 1 ∧ dx_is u x x2 ∧ (x3 = s.1 11 8 ∧ u.1 11 8 = s.1 11 8 + 1 ∧ u.1 11 6 = s.1 11 6) ∧ u.2.1 17 x3.toNat = x2 ∧ u.1 18 11 = e + 1 ∧ u.1 8 2 ≤ s.1 8 2 + (e - (p + 3))
theorem st_dz_abs {sL : Nat} {sx : Nat → Int32} (hsL : sL ≤ 3072) (b : Nat → Int) (n : Int) (C M : List (Int × qx_T)) (f : Nat) (hf : f ≤ 20) {d : Nat} (hd : 4 + 2 * f ≤ d) (h_tm : ∀ (p c a0 : Int) (nn : px_N) (Γ : List (Int × qx_T)) (ρ : List Int) (s : sx_S) (R : Int → sx_S → Prop), cx_I s → a0 = 21 - ((f : Nat) : Int) → (Γ.length : Int) ≤ a0 → s.1 18 11 = p → 0 ≤ p → px_TM (px_K b n) f p nn c → px_ls nn → dz_E b n C M s → dz_SC s Γ ρ → px_lv b n c.toNat → (s.1 11 6 + 3 * (c - p) + 20 ≤ 1024 ∧ s.1 11 8 + 2 * (c - p) + 20 ≤ 512 ∧ s.1 8 2 + (c - p) ≤ 255) → (∀ z t x W B V, B ≤ 3 * (c - p) + 6 → V ≤ 2 * (c - p) + 2 → dz_R b n C M nn Γ ρ s t c B V z x W → R z t) → ((∀ x, ¬ (px_wt (px_SN b n) C M nn).1 Γ x) → ∀ t, cx_I t → t.1 18 9 = s.1 18 9 → R (-1) t) → sx_C sL sx (d + 1) 27 [.inr (.inl 18), .inl a0] s R) : ∀ (p c e a0 : Int) (x : qx_T) (nn : px_N) (Γ : List (Int × qx_T)) (ρ : List Int) (s : sx_S) (R : Int → sx_S → Prop), cx_I s → a0 = 20 - (f : Int) → (Γ.length : Int) ≤ a0 → s.1 18 11 = p → 0 ≤ p → px_TY (px_K b n) f (p + 3) x e → px_TM (px_K b n) f (e + 1) nn c → qx_at x ≤ 5 → px_ls nn → dz_E b n C M s → dz_SC s Γ ρ → px_lv b n c.toNat → (s.1 11 6 + 3 * (c - p) + 20 ≤ 1024 ∧ s.1 11 8 + 2 * (c - p) + 20 ≤ 512 ∧ s.1 8 2 + (c - p) ≤ 255) → (∀ z t x' W B V, B ≤ 3 * (c - p) + 6 → V ≤ 2 * (c - p) + 2 → dz_R b n C M (px_lam (p + 1) x nn .leaf) Γ ρ s t c B V z x' W → R z t) → ((∀ x', ¬ (px_wt (px_SN b n) C M (px_lam (p + 1) x nn .leaf)).1 Γ x') → ∀ t, cx_I t → t.1 18 9 = s.1 18 9 → R (-1) t) → sx_C sL sx (d + 2) 28 [.inr (.inl 18), .inl a0] s R := by
  intro p c e a0 x nn Γ ρ s R hI p0 pg pq pq0 pY pM x5 pl hE hS hlv hr hK hX
  obtain ⟨e1, e2, e3, ⟨e4, e5⟩, e6, e7⟩ := hE trivial
  obtain ⟨⟨s1, s2⟩, s3, s4, s5, s6⟩ := hS trivial
  have hTK := (e1 trivial).2.2
  have hm := (hTK trivial).1
  have l1 := px_TY_le pY
  have l2 := px_TM_le pM
  have hcm := (px_TK_kd hTK (show 0 ≤ c by omega) hlv).2.2
  have h9 := hI.fld 18 9 (by decide) rfl
  have h6 := hI.fld 11 6 (by decide) rfl
  have h8 := hI.fld 11 8 (by decide) rfl
  refine sx_methL (wr := true) (n := 400) (n' := 400) (stop := [(47, [0, 1, 2]), (66, [0, 1, 2, 3]), (95, [0, 2, 3, 4])]) (fun nn' pc ls u => (pc = 47 ∧ ∃ x2 : Int, ls = [(0, .inr (.inl 18)), (1, .inl a0), (2, .inl x2)] ∧ px_UP (sx_uf s.1 18 11 (s.1 18 11 + 3), sx_ua s.2.1 27 (s.1 18 9).toNat (s.1 18 11 + 1), s.2.2) u x e x2 ∧ nn' = 3) ∨ (pc = 66 ∧ ∃ x2 x3 : Int, ls = [(0, .inr (.inl 18)), (1, .inl a0), (2, .inl x2), (3, .inl x3)] ∧ dz_AB p e x s x2 x3 u ∧ nn' = 2) ∨ (pc = 95 ∧ ∃ (x2 x3 x4 : Int) (v : sx_S), ls = [(0, .inr (.inl 18)), (2, .inl x2), (3, .inl x3), (4, .inl x4)] ∧ dz_AB p e x s x2 x3 v ∧ ((x4 = -1 ∧ cx_I u ∧ u.1 18 9 = s.1 18 9 + 1 ∧ ∀ y, ¬ (px_wt (px_SN b n) C M nn).1 ((p + 1, x) :: Γ) y) ∨ ∃ y W B V, B ≤ 3 * (c - (e + 1)) + 6 ∧ V ≤ 2 * (c - (e + 1)) + 2 ∧ dz_R b n C M nn ((p + 1, x) :: Γ) (x3 :: ρ) (sx_uf v.1 18 9 (v.1 18 9 + 1), sx_ua v.2.1 28 (v.1 18 9).toNat x3, v.2.2) u c B V x4 y W) ∧ nn' = 1)) hsL (e := eX1_abstraction) rfl ?_ ?_
  · have i1 : cx_I (sx_uf s.1 18 11 (s.1 18 11 + 3), sx_ua s.2.1 27 (s.1 18 9).toNat (s.1 18 11 + 1), s.2.2) := cx_I_uf rfl rfl (cx_I_ua rfl rfl hI (by omega) (by omega)) (by omega) (by omega)
    have F1 : cx_F [(18, 18), (27, 27)] s ((sx_uf s.1 18 11 (s.1 18 11 + 3), sx_ua s.2.1 27 (s.1 18 9).toNat (s.1 18 11 + 1), s.2.2) : sx_S) := cx_F_uf rfl (cx_F_ua rfl (cx_F_refl _ _))
    have t11 : ((sx_uf s.1 18 11 (s.1 18 11 + 3), sx_ua s.2.1 27 (s.1 18 9).toNat (s.1 18 11 + 1), s.2.2) : sx_S).1 18 11 = s.1 18 11 + 3 := px_uS
    refine w_ab (Z1 := fun z t => px_UP (sx_uf s.1 18 11 (s.1 18 11 + 3), sx_ua s.2.1 27 (s.1 18 9).toNat (s.1 18 11 + 1), s.2.2) t x e z) hI (by omega) (by omega) (by omega) ?_ ?_
    · intro K hK'
      refine c_du_type hsL b n f (by omega) (d + 1) (by omega) (p + 3) x e (a0 + 1) _ K i1 (by omega) (by rw [t11, pq]) pY (fun _ => ⟨px_TK_F F1 rfl rfl rfl rfl hTK, by rw [t11]; omega, by rw [t11]; exact px_lv_le hlv (by omega), fun i j => e4 i j, e5, ?_⟩) hK'
      rw [t11]
      show s.1 8 2 + _ ≤ _
      omega
    · exact fun z t hz => ⟨3, Or.inl ⟨rfl, z, rfl, hz, rfl⟩⟩
  · rintro nn' pc ls u (⟨rfl, x2, rfl, hU, rfl⟩ | ⟨rfl, x2, x3, rfl, hU, rfl⟩ | ⟨rfl, x2, x3, x4, v, rfl, hU, hT, rfl⟩)
    · obtain ⟨⟨a1, a2⟩, a3, a4, ⟨a5, a6, a7⟩, a8, a9⟩ := hU trivial
      have t11 : ((sx_uf s.1 18 11 (s.1 18 11 + 3), sx_ua s.2.1 27 (s.1 18 9).toNat (s.1 18 11 + 1), s.2.2) : sx_S).1 18 11 = s.1 18 11 + 3 := px_uS
      rw [t11] at a9
      have a9' : u.1 8 2 ≤ s.1 8 2 + (e - (s.1 18 11 + 3)) := a9
      have F1 : cx_F [(8, 18), (27, 28)] s ((sx_uf s.1 18 11 (s.1 18 11 + 3), sx_ua s.2.1 27 (s.1 18 9).toNat (s.1 18 11 + 1), s.2.2) : sx_S) := cx_F_uf rfl (cx_F_ua rfl (cx_F_refl _ _))
      have F2 : cx_F [(8, 18), (27, 28)] s u := cx_F_step a2 rfl F1
      have c11 : u.1 11 = s.1 11 := (a2.same 11 rfl).1
      have c12 : u.2.1 12 = s.2.1 12 := (a2.same 12 rfl).2
      have c13 : u.2.1 13 = s.2.1 13 := (a2.same 13 rfl).2
      have c14 : u.2.1 14 = s.2.1 14 := (a2.same 14 rfl).2
      have c15 : u.2.1 15 = s.2.1 15 := (a2.same 15 rfl).2
      have c16 : u.2.1 16 = s.2.1 16 := (a2.same 16 rfl).2
      have c17 : u.2.1 17 = s.2.1 17 := (a2.same 17 rfl).2
      have c27 : u.2.1 27 = sx_ua s.2.1 27 (s.1 18 9).toNat (s.1 18 11 + 1) 27 := (a2.same 27 rfl).2
      have c28 : u.2.1 28 = s.2.1 28 := (a2.same 28 rfl).2
      have g1 : dz_G (s.1 11 6) s u := fun _ => ⟨⟨a1, F2⟩, fun k hk => ?_, ⟨a6, fun j => a7 j⟩, fun _ => ⟨by rw [c11]; omega, fun j _ => by rw [c12, c13, c14, c15, c16]; exact ⟨rfl, rfl, rfl, rfl, rfl⟩⟩, ⟨by rw [c11]; omega, fun j _ => by rw [c17]⟩, fun k hk => ?_⟩
      · have i2 : cx_I (sx_uf u.1 18 11 (u.1 18 11 + 1), u.2) := cx_I_uf rfl rfl a1 (by omega) (by omega)
        have g2 : dz_G (s.1 11 6) u (sx_uf u.1 18 11 (u.1 18 11 + 1), u.2) := dz_G_uf i2 a6 rfl
        have hr2 := dx_rng a5 a8
        have u8 := a1.fld 8 2 (by decide) rfl
        refine w_ab_47 (Z2 := fun x3 t => dz_AB p e x s x2 x3 t) a1 (by omega) ?_ ?_
        · intro K hK'
          refine c_dz_variable hsL (d + 1) (by omega) x2 _ K i2 (by show u.1 11 8 < 512; rw [c11]; omega) (by omega) (fun t t1 t2 t3 => hK' _ t ?_)
          obtain ⟨v1, v2, v3, v4, v5⟩ := t3 trivial
          have v1' : t.1 11 8 = u.1 11 8 + 1 := v1
          have v2' : t.1 11 6 = u.1 11 6 := v2
          have v4' : t.2.1 17 (u.1 11 8).toNat = x2 := v4
          rw [c11] at v1' v2' v4'
          have g3 : dz_G (s.1 11 6) (sx_uf u.1 18 11 (u.1 18 11 + 1), u.2) t := dz_G_11 t1 t2 (dz_G_T g2) (dz_fr_w (dz_fr_V1 t3) (fun _ _ => trivial)) ⟨by show u.1 11 8 ≤ _; rw [c11]; omega, v5⟩
          have e11 : t.1 18 11 = u.1 18 11 + 1 := (congrFun (t2.same 18 rfl).1 11).trans (px_us u.1 18 11 (u.1 18 11 + 1))
          have e8 : t.1 8 2 = u.1 8 2 := congrFun (t2.same 8 rfl).1 2
          have e27 : t.2.1 27 = u.2.1 27 := (t2.same 27 rfl).2
          intro _
          refine ⟨dz_G_t g3 (dz_G_t g2 g1), ?_, dz_G_is g3 (dz_G_is g2 a5), ⟨by show u.1 11 8 = _; rw [c11], v1', v2'⟩, ?_, by omega, by omega⟩
          · rw [e27, c27, sx_ua_if, if_pos rfl, if_pos (by omega)]
            omega
          · show t.2.1 17 (u.1 11 8).toNat = x2
            rw [c11]
            exact v4'
        · exact fun x3 t hz => ⟨2, by omega, Or.inr (Or.inl ⟨rfl, x2, x3, rfl, hz, rfl⟩)⟩
      · have a4' : u.1 18 k = sx_uf s.1 18 11 (s.1 18 11 + 3) 18 k := a4 k (by
          rw [show [11, 12, 13, 14] = [11] ++ [12, 13, 14] from rfl, List.contains_append, Bool.or_eq_false_iff] at hk
          exact hk.1)
        rw [a4', sx_uf_if, if_neg (fun q => ?_)]
        rw [q.2] at hk
        exact absurd hk (by decide)
      · rw [c27, c28, sx_ua_if, if_pos rfl, if_neg (by omega)]
        exact ⟨rfl, rfl⟩
    · obtain ⟨b1, b2, b3, ⟨b4, b5, b6⟩, b7, b8, b9⟩ := hU trivial
      have uI := dz_G_I b1
      have uE := dz_E_G hE b1
      have uS := dz_SC_G hS b1
      have u9 : u.1 18 9 = s.1 18 9 := (b1 trivial).2.1 9 rfl
      have u25 : u.1 2 5 = s.1 2 5 := congrFun ((b1 trivial).1.2.same 2 rfl).1 5
      have hI3 : cx_I (sx_uf u.1 18 9 (u.1 18 9 + 1), sx_ua u.2.1 28 (u.1 18 9).toNat x3, u.2.2) := cx_I_uf rfl rfl (cx_I_ua rfl rfl uI (by omega) (by omega)) (by omega) (by omega)
      have hS3 : dz_SC (sx_uf u.1 18 9 (u.1 18 9 + 1), sx_ua u.2.1 28 (u.1 18 9).toNat x3, u.2.2) ((p + 1, x) :: Γ) (x3 :: ρ) := dz_SC_b uS (by rw [u9]; exact b2) (by omega) (by omega) (by rw [b7]; exact b3) (fun w hw => by have := s4 w hw; omega) x5
      refine w_ab_66 (Z3 := fun x4 t => (x4 = -1 ∧ cx_I t ∧ t.1 18 9 = s.1 18 9 + 1 ∧ ∀ y, ¬ (px_wt (px_SN b n) C M nn).1 ((p + 1, x) :: Γ) y) ∨ ∃ y W B V, B ≤ 3 * (c - (e + 1)) + 6 ∧ V ≤ 2 * (c - (e + 1)) + 2 ∧ dz_R b n C M nn ((p + 1, x) :: Γ) (x3 :: ρ) (sx_uf u.1 18 9 (u.1 18 9 + 1), sx_ua u.2.1 28 (u.1 18 9).toNat x3, u.2.2) t c B V x4 y W) uI (by omega) (by omega) (by omega) ?_ ?_
      · intro K hK'
        refine h_tm (e + 1) c (a0 + 1) nn ((p + 1, x) :: Γ) (x3 :: ρ) _ K hI3 (by omega) (by rw [List.length_cons]; omega) (by exact b8) (by omega) pM pl (dz_E_b uE) hS3 hlv ?_ (fun z t y W B V c1 c2 c3 => hK' z t (Or.inr ⟨y, W, B, V, c1, c2, c3⟩)) (fun q t t1 t2 => hK' _ t (Or.inl ⟨rfl, t1, ?_, q⟩))
        · show u.1 11 6 + _ + _ ≤ _ ∧ u.1 11 8 + _ + _ ≤ _ ∧ u.1 8 2 + _ ≤ _
          omega
        · rw [t2]
          show sx_uf u.1 18 9 (u.1 18 9 + 1) 18 9 = _
          rw [px_us]
          omega
      · exact fun x4 t hz => ⟨1, by omega, Or.inr (Or.inr ⟨rfl, x2, x3, x4, u, rfl, hU, hz, rfl⟩)⟩
    · obtain ⟨b1, b2, b3, ⟨b4, b5, b6⟩, b7, b8, b9⟩ := hU trivial
      have v9 : v.1 18 9 = s.1 18 9 := (b1 trivial).2.1 9 rfl
      rcases hT with ⟨rfl, t1, t2, t3⟩ | ⟨y, W, B, V, c1, c2, c3⟩
      · refine w_ab_95 (Z4 := fun _ _ => False) (Z5 := fun _ _ => False) t1 (by omega) (by omega) ?_ (fun q => absurd q (by decide)) (fun _ _ q => q.elim) (fun _ _ q => q.elim)
        intro _
        refine hX (fun x' hx => ?_) _ (cx_I_uf rfl rfl t1 (by omega) (by omega)) ?_
        · rcases hx with ⟨_, _, B, hx, _⟩ | ⟨hx, _⟩
          · exact t3 B hx
          · exact absurd rfl hx
        · show sx_uf u.1 18 9 (u.1 18 9 - 1) 18 9 = _
          rw [px_us]
          omega
      · obtain ⟨d1, d2, d3, d4, ⟨d5, d6⟩, d7, d8, d9, d10⟩ := c3 trivial
        have d1' : dz_G (v.1 11 6) (sx_uf v.1 18 9 (v.1 18 9 + 1), sx_ua v.2.1 28 (v.1 18 9).toNat x3, v.2.2) u := d1
        obtain ⟨u9, g1⟩ := dz_G_b b1 d1' (by omega)
        have d6' : dz_T (v.1 11 6) u W x4 := d6
        have d8' : u.1 11 6 ≤ v.1 11 6 + B := d8
        have d9' : u.1 11 8 ≤ v.1 11 8 + V := d9
        have d10' : u.1 8 2 ≤ v.1 8 2 + (c - v.1 18 11) := d10
        have uI := dz_G_I d1
        have hz := dz_T_z d6' d5
        have hxu : dx_is u x x2 := dz_G_is d1 b3
        have hyu : dx_is u y (u.1 18 12) := d4
        have uE := dz_E_G hE g1
        have u8 : 2 ≤ u.1 8 2 := (uE trivial).2.2.2.1.2
        have u6 := uI.fld 11 6 (by decide) rfl
        have hv8 : v.1 11 6 ≤ u.1 11 6 := ((d1' trivial).2.2.2.1 trivial).1
        have hu11 : u.1 18 11 = c := d2
        have i4 := dz_G_I g1
        refine w_ab_95 (Z4 := fun z t => cx_I t ∧ cx_F [(8, 10)] (sx_uf u.1 18 9 (u.1 18 9 - 1), u.2) t ∧ dx_is t (qx_a x y) z ∧ dx_TI t ∧ dx_tu (sx_uf u.1 18 9 (u.1 18 9 - 1), u.2) t ∧ t.1 8 2 ≤ u.1 8 2 + 1) (Z5 := fun m t => R m t) uI (by omega) (by omega) (fun q => by omega) ?_ ?_ (fun _ _ q => q)
        · intro _ K hK'
          exact c_du_arrow hsL (d + 1) (by omega) x y x2 (u.1 18 12) _ K i4 hxu hyu (dz_G_T g1) (by show 2 ≤ u.1 8 2 ∧ u.1 8 2 < 256; omega) (fun z t t1 t2 t3 t4 t5 t6 => hK' z t ⟨t1, t2, t3, t4, t5, t6⟩)
        · rintro z t ⟨t1, t2, t3, t4, t5, t6⟩ K hK'
          have t8 := (t5 0).1
          have t8' : u.1 8 2 ≤ t.1 8 2 := t8
          have tb := t1.fld 8 2 (by decide) rfl
          have hrz := dx_rng t3 (by omega)
          have c11 : t.1 11 = u.1 11 := (t2.same 11 rfl).1
          have g2 : dz_G (s.1 11 6) (sx_uf u.1 18 9 (u.1 18 9 - 1), u.2) t := dz_G_8 t1 (cx_F_step t2 rfl (cx_F_refl _ _)) (fun k _ => congrFun (t2.same 18 rfl).1 k) t4 t5
          have i5 : cx_I (sx_uf t.1 18 12 z, t.2) := cx_I_uf rfl rfl t1 (by omega) (by omega)
          have g3 : dz_G (s.1 11 6) t (sx_uf t.1 18 12 z, t.2) := dz_G_uf i5 t4 rfl
          have hT5 : dz_T (v.1 11 6) (sx_uf t.1 18 12 z, t.2) W x4 := fun _ => by
            have q := dz_T_fr (t := (sx_uf t.1 18 12 z, t.2)) d6' (P := fun _ => True) (fun _ => ⟨by show u.1 11 6 ≤ t.1 11 6; rw [c11]; omega, fun j _ => ?_⟩) (fun _ _ => trivial)
            · exact q trivial
            · show t.2.1 12 j = _ ∧ t.2.1 13 j = _ ∧ t.2.1 14 j = _ ∧ t.2.1 15 j = _ ∧ t.2.1 16 j = _
              rw [(t2.same 12 rfl).2, (t2.same 13 rfl).2, (t2.same 14 rfl).2, (t2.same 15 rfl).2, (t2.same 16 rfl).2]
              exact ⟨rfl, rfl, rfl, rfl, rfl⟩
          refine c_dz_lambda hsL (d + 1) (by omega) x3 x4 _ K i5 (by show t.1 11 6 < 1024; rw [c11]; omega) (by omega) (by omega) (fun m m1 m2 m3 => hK' _ m ?_)
          obtain ⟨n1, n2, n3, n4, n5⟩ := m3 trivial
          have n1' : m.1 11 6 = t.1 11 6 + 1 := n1
          have n2' : m.1 11 8 = t.1 11 8 := n2
          have n3' : m.2.1 17 = t.2.1 17 := n3
          rw [c11] at n1' n2'
          have g4 : dz_G (s.1 11 6) (sx_uf t.1 18 12 z, t.2) m := dz_G_11 m1 m2 (dz_G_T g3) (dz_fr_w (dz_fr_N1 m3) (fun j hj => by show (j : Int) < t.1 11 6; rw [c11]; omega)) ⟨by show t.1 11 8 ≤ _; rw [c11]; omega, fun j _ => congrFun n3' j⟩
          have e18 : m.1 18 = sx_uf t.1 18 12 z 18 := (m2.same 18 rfl).1
          have e11 : m.1 18 11 = c := by
            rw [e18]
            show t.1 18 11 = c
            rw [(t2.same 18 rfl).1]
            exact hu11
          have e12 : m.1 18 12 = z := by
            rw [e18]
            exact px_us _ _ _ _
          have e8 : m.1 8 2 = t.1 8 2 := congrFun (m2.same 8 rfl).1 2
          have wl : (px_wt (px_SN b n) C M (px_lam (p + 1) x nn .leaf)).1 Γ (qx_a x y) := Or.inl ⟨rfl, x5, y, d3, rfl⟩
          refine hK _ m (qx_a x y) (rf_n (t.1 11 6).toNat 0 x3 W .leaf) (B + 1) (V + 1) (by omega) (by omega) (fun _ => ⟨dz_G_t g4 (dz_G_t g3 (dz_G_t g2 g1)), e11, wl, ?_, ⟨nofun, ?_⟩, ⟨dz_mt_lam s2 s6 wl d7.1, ?_⟩, by omega, by omega, by omega⟩)
          · rw [e12]
            exact dz_G_is g4 (dz_G_is g3 t3)
          · refine dz_T_lo (dz_T_lam m3 (by show 0 ≤ t.1 11 6; rw [c11]; omega) (by show v.1 11 6 ≤ t.1 11 6; rw [c11]; omega) (by omega) hT5) (by omega)
          · obtain ⟨f1, f2, f3⟩ := d7.2 trivial
            have f1' : dl_nb (v.1 11 8) (u.1 11 8) W := f1
            have um : u.1 11 8 = m.1 11 8 := n2'.symm
            have vu : v.1 11 8 ≤ u.1 11 8 := ((d1' trivial).2.2.2.2.1).1
            have gm : dz_G (s.1 11 6) (sx_uf u.1 18 9 (u.1 18 9 - 1), u.2) m := dz_G_t g4 (dz_G_t g3 g2)
            have tu : ∀ y T, dl_TV u y T → dl_TV m y T := fun y T q => dl_TV_G gm y T q
            have hv3 : dl_TV m x3 x := by
              refine tu x3 x ⟨by omega, by omega, ?_⟩
              have e17 : u.2.1 17 x3.toNat = v.2.1 17 x3.toNat := ((d1' trivial).2.2.2.2.1).2 x3.toNat (by show (x3.toNat : Int) < v.1 11 8; omega)
              rw [e17, b7]
              exact hxu
            refine fun _ => ⟨⟨Or.inl ⟨rfl, ⟨by omega, fun q => q (by omega)⟩, vx_nb_mono (fun z hz => ?_) f1'⟩, trivial⟩, ⟨_, _, _, _, rfl⟩, fun AR hA => Or.inl ⟨rfl, _, x3, W, y, rfl, ⟨fun q => ?_, by omega, hv3, x5⟩, (vl_tm_mono tu).1 (f3 AR (hA.2.1 vx_03)), rfl⟩⟩
            · rcases hz with hz | hz
              · have hz' : z = x3 := hz
                omega
              · omega
            · have := s4 x3 q
              omega
theorem c_dz_term {sL : Nat} {sx : Nat → Int32} (hsL : sL ≤ 3072) (b : Nat → Int) (n : Int) (C M : List (Int × qx_T)) : ∀ g : Nat, g ≤ 21 → ∀ d, 20 + 3 * g ≤ d → ∀ (p c a0 : Int) (nn : px_N) (Γ : List (Int × qx_T)) (ρ : List Int) (s : sx_S) (R : Int → sx_S → Prop), cx_I s → a0 = 21 - ((g : Nat) : Int) → (Γ.length : Int) ≤ a0 → s.1 18 11 = p → 0 ≤ p → px_TM (px_K b n) g p nn c → px_ls nn → dz_E b n C M s → dz_SC s Γ ρ → px_lv b n c.toNat → (s.1 11 6 + 3 * (c - p) + 20 ≤ 1024 ∧ s.1 11 8 + 2 * (c - p) + 20 ≤ 512 ∧ s.1 8 2 + (c - p) ≤ 255) → (∀ z t x W B V, B ≤ 3 * (c - p) + 6 → V ≤ 2 * (c - p) + 2 → dz_R b n C M nn Γ ρ s t c B V z x W → R z t) → ((∀ x, ¬ (px_wt (px_SN b n) C M nn).1 Γ x) → ∀ t, cx_I t → t.1 18 9 = s.1 18 9 → R (-1) t) → sx_C sL sx d 27 [.inr (.inl 18), .inl a0] s R := by
  intro g
  induction g with
  | zero =>
    intro hg d hd p c a0 nn Γ ρ s R hI p0 pg pq pq0 pM
    exact pM.elim
  | succ f ih =>
    intro hg d hd p c a0 nn Γ ρ s R hI p0 pg pq pq0 pM pl hE hS hlv hr hK hX
    obtain ⟨d, rfl⟩ : ∃ e, d = e + 3 + 2 := ⟨d - 5, by omega⟩
    have hTK := ((hE trivial).1 trivial).2.2
    have hm := (hTK trivial).1
    have l0 := px_TM_le pM
    have hcm := (px_TK_kd hTK (show 0 ≤ c by omega) hlv).2.2
    rcases pM with ⟨k1, k2, k3, x, e, pY, k4, u, pM, rfl⟩ | ⟨k1, r, pA, rfl⟩
    · refine sx_meth (wr := true) (n := 400) hsL (e := eX1_term) rfl (w_tm (Q := fun _ _ _ => False) (c_dx_kind hsL _ (by omega) b n) hI hTK (px_lv_le hlv (by omega)) (by omega) (by omega) (fun _ K hK' => ?_) (fun q => ?_))
      · exact st_dz_abs hsL b n C M f (by omega) (d := d + 2) (by omega) (ih (by omega) (d + 3) (by omega)) p c e a0 x u Γ ρ s K hI (by omega) pg pq pq0 pY pM (pl.1 rfl) pl.2.1 hE hS hlv hr (fun z t x' W B V c1 c2 c3 => hK' z t (hK z t x' W B V c1 c2 c3)) (fun q t t1 t2 => hK' _ t (hX q t t1 t2))
      · rw [pq] at q
        exact absurd k1 q
    · refine sx_meth (wr := true) (n := 400) hsL (e := eX1_term) rfl (w_tm (Q := fun _ _ _ => False) (c_dx_kind hsL _ (by omega) b n) hI hTK (px_lv_le hlv (by omega)) (by omega) (by omega) (fun q => ?_) (fun _ K hK' => ?_))
      · rw [pq, k1] at q
        exact absurd q (by decide)
      · exact st_dz_named hsL b n C M f (d := d + 2) (by omega) 1 (fun _ => st_dz_argument hsL b n C M f (by omega) (d := d + 1) (by omega) (ih (by omega) (d + 2) (by omega))) p c a0 1 r Γ ρ s K rfl hI (by omega) pg pq pq0 (Or.inl ⟨rfl, pA⟩) pl.2.1 hE hS hlv (fun _ => ⟨hr.1, hr.2.1⟩) (by omega) (fun z t x' W B V c1 _ c3 => hK' z t (hK z t x' W B V (c1 rfl).1 (c1 rfl).2 c3)) (fun q t t1 t2 => hK' _ t (hX q t t1 t2))
end
