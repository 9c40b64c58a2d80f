/-! ===== the desk's checker: an ARG ===== -/
theorem w_ag {CALL : sx_Ca} {sL : Nat} {sx : Nat → Int32} {Q : Nat → sx_L → sx_S → Prop} {R : Int → sx_S → Prop} {b : Nat → Int} {n : Int} (h_kd : ∀ (t0 : Int) (s : sx_S) (K : Int → sx_S → Prop), cx_I s → (0 ≤ t0 ∧ t0 ≤ 1000) → (px_TK b n s) → (px_lv b n t0.toNat) → (∀ z : Int, (z = px_K b n t0.toNat) → K z s) → CALL 101 [.inr (.inl 2), .inl t0] s K) {s : sx_S} {a0 : Int} {Zt : Int → sx_S → Prop} (hI : cx_I s) (hT : px_TK b n s) (hl : px_lv b n (s.1 18 11).toNat) (h0 : 0 ≤ s.1 18 11 ∧ s.1 18 11 ≤ 900) (ha : 0 ≤ a0 ∧ a0 ≤ 30) (h_n0 : px_K b n (s.1 18 11).toNat = 2 → ∀ K : Int → sx_S → Prop, (∀ z t, R z t → K z t) → CALL 29 [.inr (.inl 18), .inl a0, .inl 0] s K) (h_tm : px_K b n (s.1 18 11).toNat ≠ 2 → ∀ K : Int → sx_S → Prop, (∀ z t, Zt z t → K z t) → CALL 27 [.inr (.inl 18), .inl (a0 + 1)] (sx_uf s.1 18 11 (s.1 18 11 + 1), s.2) K) (hZ : ∀ z t, Zt z t → cx_I t) (hKt : ∀ z t, Zt z t → ∀ w, w = sx_w true (t.1 18 11 + 1) → R z (sx_uf t.1 18 11 w, t.2)) : sx_wp true sL sx eX1_argument CALL [] Q R 400 0 (sx_argsF 0 [.inr (.inl 18), .inl a0]) [] s := by
  have zzy : sx_w true (s.1 18 11 + 1) = s.1 18 11 + 1 := px_wid (by omega) (by omega)
  have zza : sx_w true (a0 + 1) = a0 + 1 := px_wid (by omega) (by omega)
  rw [← zzy, ← zza] at h_tm
  have zzr := px_K_r b n (s.1 18 11).toNat
  have zzk : ∀ K : Int → sx_S → Prop, K (px_K b n (s.1 18 11).toNat) s → CALL 101 [.inr (.inl 2), .inl (s.1 18 11)] s K := fun K hK => h_kd _ _ _ hI (by omega) hT hl (fun z z1 => by rw [z1]; exact hK)
  by_cases hk : px_K b n (s.1 18 11).toNat = 2
  · have h_n0' := h_n0 hk
    clear h_n0 h_tm
    repeat' (first | (with_reducible (rintro _ rfl)) | (with_reducible intro _) | (refine And.intro ?_ ?_) | (refine zzk _ ?_) | (refine h_n0' _ ?_))
    all_goals (try dsimp only at *)
    all_goals (first | trivial | assumption | omega | (exfalso; omega) | skip)
  · have h_tm' := h_tm hk
    clear h_n0 h_tm
    repeat' (first | (with_reducible (rintro _ rfl)) | (with_reducible intro _) | (refine And.intro ?_ ?_) | (refine zzk _ ?_) | (refine h_tm' _ ?_))
    all_goals (try dsimp only at *)
    all_goals (first | trivial | assumption | omega | (exfalso; omega) | (exact hZ _ _ (by assumption)) | (exact hKt _ _ (by assumption) _ rfl) | skip)
/-- one token before, one behind -/
theorem dz_R_br {b : Nat → Int} {n : Int} {C M Γ : List (Int × qx_T)} {ρ : List Int} {nn : px_N} {s t : sx_S} {c B V z w : Int} {x : qx_T} {W : rf_N} (hI : cx_I s) (hT : dx_TI s) (h0 : 0 ≤ s.1 18 11 ∧ s.1 18 11 ≤ 900) (hc : 0 ≤ c ∧ c ≤ 900) (h : dz_R b n C M nn Γ ρ (sx_uf s.1 18 11 (s.1 18 11 + 1), s.2) t c B V z x W) (hw : w = sx_w true (t.1 18 11 + 1)) : dz_R b n C M nn Γ ρ s (sx_uf t.1 18 11 w, t.2) (c + 1) B V z x W := fun _ => by
  obtain ⟨b1, b2, b3, b4, ⟨b5, b6⟩, b7, b8, b9, b10⟩ := h trivial
  have ew : w = c + 1 := by rw [hw, b2, px_wid (by omega) (by omega)]
  subst ew
  have i1 : cx_I (sx_uf s.1 18 11 (s.1 18 11 + 1), s.2) := cx_I_uf rfl rfl hI (by omega) (by omega)
  have g1 : dz_G (s.1 11 6) s (sx_uf s.1 18 11 (s.1 18 11 + 1), s.2) := dz_G_uf i1 hT rfl
  have i2 : cx_I (sx_uf t.1 18 11 (c + 1), t.2) := cx_I_uf rfl rfl (dz_G_I b1) (by omega) (by omega)
  have g2 : dz_G (s.1 11 6) t (sx_uf t.1 18 11 (c + 1), t.2) := dz_G_uf i2 (dz_G_T b1) rfl
  have b1' : dz_G (s.1 11 6) (sx_uf s.1 18 11 (s.1 18 11 + 1), s.2) t := b1
  have b6' : dz_T (s.1 11 6) t W z := b6
  have e11 : sx_uf s.1 18 11 (s.1 18 11 + 1) 18 11 = s.1 18 11 + 1 := px_us _ _ _ _
  have b10' : t.1 8 2 ≤ s.1 8 2 + (c - sx_uf s.1 18 11 (s.1 18 11 + 1) 18 11) := b10
  refine ⟨dz_G_t g2 (dz_G_t b1' g1), px_uS, b3, dz_G_is g2 b4, ⟨b5, fun _ => b6' trivial⟩, ⟨b7.1, fun _ => b7.2 trivial⟩, b8, b9, ?_⟩
  show t.1 8 2 ≤ _
  omega
theorem st_dz_argument {sL : Nat} {sx : Nat → Int32} (hsL : sL ≤ 3072) (b : Nat → Int) (n : Int) (C M : List (Int × qx_T)) (f : Nat) (hf : f ≤ 20) {d : Nat} (hd : 14 ≤ d) (h_tm : ∀ (p c a0 : Int) (nn : px_N) (Γ : List (Int × qx_T)) (ρ : List Int) (s : sx_S) (R : Int → sx_S → Prop), cx_I s → a0 = 21 - ((f : Nat) : Int) → (Γ.length : Int) ≤ a0 → s.1 18 11 = p → 0 ≤ p → px_TM (px_K b n) f p nn c → px_ls nn → dz_E b n C M s → dz_SC s Γ ρ → px_lv b n c.toNat → (s.1 11 6 + 3 * (c - p) + 20 ≤ 1024 ∧ s.1 11 8 + 2 * (c - p) + 20 ≤ 512 ∧ s.1 8 2 + (c - p) ≤ 255) → (∀ z t x W B V, B ≤ 3 * (c - p) + 6 → V ≤ 2 * (c - p) + 2 → dz_R b n C M nn Γ ρ s t c B V z x W → R z t) → ((∀ x, ¬ (px_wt (px_SN b n) C M nn).1 Γ x) → ∀ t, cx_I t → t.1 18 9 = s.1 18 9 → R (-1) t) → sx_C sL sx (d + 1) 27 [.inr (.inl 18), .inl a0] s R) : ∀ (q e a0 : Int) (pp : px_N) (Γ : List (Int × qx_T)) (ρ : List Int) (s : sx_S) (R : Int → sx_S → Prop), cx_I s → a0 = 20 - ((f : Nat) : Int) → (Γ.length : Int) ≤ a0 → s.1 18 11 = q → 0 ≤ q → px_on (px_K b n) f q pp e → px_ls pp → dz_E b n C M s → dz_SC s Γ ρ → px_lv b n e.toNat → (s.1 11 6 + 3 * (e - q) + 14 ≤ 1024 ∧ s.1 11 8 + 2 * (e - q) + 16 ≤ 512 ∧ s.1 8 2 + (e - q) ≤ 255) → (∀ z t x W B V, B ≤ 3 * (e - q) + 2 * (qx_at x : Int) - 2 → V ≤ 2 * (e - q) + (qx_at x : Int) - 1 → dz_R b n C M pp Γ ρ s t e B V z x W → R z t) → ((∀ x, ¬ (px_wt (px_SN b n) C M pp).1 Γ x) → ∀ t, cx_I t → t.1 18 9 = s.1 18 9 → R (-1) t) → sx_C sL sx (d + 2) 31 [.inr (.inl 18), .inl a0] s R := by
  intro q e a0 pp Γ ρ s R hI p0 pg pq pq0 po pl hE hS hlv hr hK hX
  have hTK := ((hE trivial).1 trivial).2.2
  have hm := (hTK trivial).1
  have hqe : q < e := by
    rcases po with ⟨_, _, o⟩ | ⟨_, e', o1, _, o3⟩
    · omega
    · have := px_TM_le o1
      omega
  have hem := (px_TK_kd hTK (show 0 ≤ e by omega) hlv).2.2
  obtain ⟨d, rfl⟩ : ∃ d', d = d' + 1 := ⟨d - 1, by omega⟩
  rcases po with ⟨o1, o2, o3⟩ | ⟨o1, e', o2, o3, o4⟩
  · refine sx_meth (wr := true) (n := 400) hsL (e := eX1_argument) rfl (w_ag (Q := fun _ _ _ => False) (Zt := fun _ _ => False) (c_dx_kind hsL _ (by omega) b n) hI hTK (px_lv_le hlv (by omega)) (by omega) (by omega) ?_ ?_ (fun _ _ q => q.elim) ?_)
    · intro _ K hK'
      refine st_dz_named hsL b n C M f (by omega) 0 (fun q => absurd q (by decide)) q e a0 0 .leaf Γ ρ s K rfl hI p0 pg pq pq0 (Or.inr ⟨rfl, rfl, o3⟩) trivial hE hS hlv (fun q => absurd q (by decide)) (by omega) (fun z t x W B V _ c2 c3 => hK' z t (hK z t x W B V ?_ ?_ (by rw [o2]; exact c3))) (fun q' t t1 t2 => hK' _ t (hX (by rw [o2]; exact q') t t1 t2))
      · have := c2 rfl
        omega
      · have := c2 rfl
        omega
    · intro q'
      rw [pq] at q'
      exact absurd o1 q'
    · exact fun _ _ q => q.elim
  · have i1 : cx_I (sx_uf s.1 18 11 (s.1 18 11 + 1), s.2) := cx_I_uf rfl rfl hI (by omega) (by omega)
    have g1 : dz_G (s.1 11 6) s (sx_uf s.1 18 11 (s.1 18 11 + 1), s.2) := dz_G_uf i1 (hE trivial).2.2.2.1.1 rfl
    have l1 := px_TM_le o2
    refine sx_meth (wr := true) (n := 400) hsL (e := eX1_argument) rfl (w_ag (Q := fun _ _ _ => False) (Zt := fun z t => (∃ x W B V, B ≤ 3 * (e' - (q + 1)) + 6 ∧ V ≤ 2 * (e' - (q + 1)) + 2 ∧ dz_R b n C M pp Γ ρ (sx_uf s.1 18 11 (s.1 18 11 + 1), s.2) t e' B V z x W) ∨ (z = -1 ∧ (∀ x, ¬ (px_wt (px_SN b n) C M pp).1 Γ x) ∧ cx_I t ∧ t.1 18 9 = s.1 18 9)) (c_dx_kind hsL _ (by omega) b n) hI hTK (px_lv_le hlv (by omega)) (by omega) (by omega) ?_ ?_ ?_ ?_)
    · intro q'
      rw [pq, o1] at q'
      exact absurd q' (by decide)
    · intro _ K hK'
      refine h_tm (q + 1) e' (a0 + 1) pp Γ ρ _ K i1 (by omega) (by omega) (by rw [← pq]; exact px_uS) (by omega) o2 pl (dz_E_G hE g1) (dz_SC_G hS g1) (px_lv_le hlv (by omega)) ?_ (fun z t x W B V c1 c2 c3 => hK' z t (Or.inl ⟨x, W, B, V, c1, c2, c3⟩)) (fun q' t t1 t2 => hK' _ t (Or.inr ⟨rfl, q', t1, t2⟩))
      show s.1 11 6 + _ + _ ≤ _ ∧ s.1 11 8 + _ + _ ≤ _ ∧ s.1 8 2 + _ ≤ _
      omega
    · rintro z t (⟨x, W, B, V, c1, c2, c3⟩ | ⟨c1, c2, c3, c4⟩)
      · exact dz_G_I (c3 trivial).1
      · exact c3
    · rintro z t (⟨x, W, B, V, c1, c2, c3⟩ | ⟨c1, c2, c3, c4⟩) w hw
      · have xp := qx_at_pos x
        refine hK z _ x W B V (by omega) (by omega) ?_
        rw [o4]
        exact dz_R_br hI (hE trivial).2.2.2.1.1 (by omega) (by omega) c3 hw
      · rw [c1]
        have t11 := c3.fld 18 11 (by decide) rfl
        refine hX c2 _ (cx_I_uf rfl rfl c3 ?_ ?_) c4
        · rw [hw, sx_w_t]
          omega
        · rw [hw, sx_w_t]
          omega
