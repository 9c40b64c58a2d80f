/-! ===== the desk's checker: types, exactly: by depth ===== -/
theorem px_UP_a {s t u v : sx_S} {y w : qx_T} {e c z1 z2 z w1 : Int} (h1 : px_UP s t y e z1) (h2 : px_UP (sx_uf t.1 18 11 w1, t.2) u w c z2) (hw : w1 = e + 1) (v1 : cx_I v) (v2 : cx_F [(8, 10)] u v) (v3 : dx_is v (qx_a y w) z) (v4 : dx_TI v) (v5 : dx_tu u v) (v6 : v.1 8 2 ≤ u.1 8 2 + 1) : px_UP s v (qx_a y w) c z := fun _ => by
  obtain ⟨⟨a1, a2⟩, a3, a4, ⟨a5, a6, a7⟩, a8, a9⟩ := h1 trivial
  obtain ⟨⟨b1, b2⟩, b3, b4, ⟨b5, b6, b7⟩, b8, b9⟩ := h2 trivial
  dsimp only at b9
  rw [dx_u8, px_us] at b9
  have e18 : v.1 18 = u.1 18 := (v2.same 18 rfl).1
  have b7' : dx_tu t u := fun j => by
    have := b7 j
    dsimp only at this
    rw [dx_u8] at this
    exact this
  have v8 := (v5 0).1
  refine ⟨⟨v1, cx_F_step v2 rfl (cx_F_step b2 rfl (cx_F_uf rfl a2))⟩, by rw [e18]; exact b3, fun k hk => ?_, ⟨v3, v4, dx_tu_trans v5 (dx_tu_trans b7' a7)⟩, by omega, by omega⟩
  rw [e18, b4 k hk]
  exact (dz_u k hk).trans (a4 k hk)
set_option maxHeartbeats 4000000 in
theorem w_du_type {CALL : sx_Ca} {b : Nat → Int} {n : Int} {g : Nat} {sL : Nat} {sx : Nat → Int32} {Q : Nat → sx_L → sx_S → Prop} {R : Int → sx_S → Prop} (h_kd : ∀ (t0 : Int) (s : sx_S) (K : Int → sx_S → Prop), cx_I s → (0 ≤ t0 ∧ t0 ≤ 1000) → (px_TK b n s) → (px_lv b n t0.toNat) → (∀ z : Int, (z = px_K b n t0.toNat) → K z s) → CALL 101 [.inr (.inl 2), .inl t0] s K) (h_at : ∀ (p : Int) (x : qx_T) (c a0 : Int) (s : sx_S) (K : Int → sx_S → Prop), cx_I s → a0 = 20 - (g : Int) → s.1 18 11 = p → px_AM (px_K b n) g p x c → px_UR b n s c → (∀ z t, px_UP s t x c z → K z t) → CALL 26 [.inr (.inl 18), .inl a0] s K) (h_ty : ∀ (p : Int) (x : qx_T) (c a0 : Int) (s : sx_S) (K : Int → sx_S → Prop), cx_I s → a0 = 21 - (g : Int) → s.1 18 11 = p → px_TY (px_K b n) g p x c → px_UR b n s c → (∀ z t, px_UP s t x c z → K z t) → CALL 25 [.inr (.inl 18), .inl a0] s K) (h_ar : ∀ (x y : qx_T) (a0 a1 : Int) (s : sx_S) (R : Int → sx_S → Prop), cx_I s → dx_is s x a0 → dx_is s y a1 → dx_TI s → (2 ≤ s.1 8 2 ∧ s.1 8 2 < 256) → (∀ (z : Int) (t : sx_S), cx_I t → cx_F [(8, 10)] s t → dx_is t (qx_a x y) z → dx_TI t → dx_tu s t → t.1 8 2 ≤ s.1 8 2 + 1 → R z t) → CALL 119 [.inr (.inl 8), .inl a0, .inl a1] s R) {s : sx_S} {a0 p c : Int} {x : qx_T} (hI : cx_I s) (p0 : a0 = 20 - (g : Int)) (pg : g ≤ 20) (pp : s.1 18 11 = p) (pT : px_TY (px_K b n) (g + 1) p x c) (pR : px_UR b n s c) (hK : ∀ z t, px_UP s t x c z → R z t) : sx_wp true sL sx eX1_type CALL [] Q R 400 0 (sx_argsF 0 [.inr (.inl 18), .inl a0]) [] s := by
  subst pp
  obtain ⟨r1, r2, r3, r4, r5, r6⟩ := pR trivial
  have zzk := px_TK_kd r1 r2 r3
  have zzt := (r1 trivial).1
  have zzq : sx_w true (a0 + 1) = 21 - (g : Int) := by rw [px_wid (by omega) (by omega)]; omega
  have zzl := px_TY_le pT
  obtain ⟨y, e, hA, hB⟩ := px_TY_it.mp pT
  obtain ⟨n1, n2⟩ := px_AM_k hA
  have zzv : px_lv b n e.toNat := px_lv_nk r3 r2 n1 (by omega)
  have zze := px_K_r b n e.toNat
  have zzF : ∀ z t, px_UP s t y e z → (cx_I t ∧ t.1 18 11 = e ∧ px_TK b n t) ∧ e ≤ 240 := fun z t h => by
    obtain ⟨⟨a1, a2⟩, a3, _⟩ := h trivial
    have h1 := px_TK_F a2 rfl rfl rfl rfl r1
    have h2 := px_TK_kd h1 (by omega : 0 ≤ e) zzv
    have h3 := (h1 trivial).1
    exact ⟨⟨a1, a3, h1⟩, by omega⟩
  rcases hB with ⟨k8, w, hT, rfl⟩ | ⟨k8, rfl, rfl⟩
  · have zzc := px_TY_le hT
    have zzG : ∀ z t, px_UP s t y e z → px_UP s (sx_uf t.1 18 11 (sx_w true (t.1 18 11 + 1)), t.2) y (e + 1) z ∧ px_UR b n (sx_uf t.1 18 11 (sx_w true (t.1 18 11 + 1)), t.2) c ∧ sx_w true (t.1 18 11 + 1) = e + 1 := fun z t h => by
      obtain ⟨⟨f1, f2, f3⟩, f4⟩ := zzF z t h
      have hw : sx_w true (t.1 18 11 + 1) = e + 1 := by rw [f2, px_wid (by omega) (by omega)]
      have h1 := px_UP_n h (by omega) (by omega) hw rfl (by omega)
      exact ⟨h1, px_UR_t h1 pR (px_lv_up zzv (by omega) (by omega) rfl) (by omega), hw⟩
    have zzH : ∀ z t z2 u, px_UP s t y e z → px_UP (sx_uf t.1 18 11 (sx_w true (t.1 18 11 + 1)), t.2) u w c z2 → (cx_I u ∧ dx_is u y z ∧ dx_is u w z2 ∧ dx_TI u ∧ (2 ≤ u.1 8 2 ∧ u.1 8 2 < 256)) ∧ ∀ z3 v, cx_I v → cx_F [(8, 10)] u v → dx_is v (qx_a y w) z3 → dx_TI v → dx_tu u v → v.1 8 2 ≤ u.1 8 2 + 1 → R z3 v := fun z t z2 u h1 h2 => by
      obtain ⟨g1, g2, g3⟩ := zzG z t h1
      have h3 := px_UP_t g1 h2
      obtain ⟨⟨a1, a2⟩, a3, a4, ⟨a5, a6, a7⟩, a8, a9⟩ := g1 trivial
      obtain ⟨⟨b1, b2⟩, b3, b4, ⟨b5, b6, b7⟩, b8, b9⟩ := h2 trivial
      obtain ⟨_, _, _, _, _, c9⟩ := h3 trivial
      exact ⟨⟨b1, dx_is_up a5 b7, b5, b6, b8, by omega⟩, fun z3 v v1 v2 v3 v4 v5 v6 => hK z3 v (px_UP_a h1 h2 g3 v1 v2 v3 v4 v5 v6)⟩
    repeat' (first | (with_reducible (rintro _ rfl)) | (with_reducible intro _) | (refine And.intro ?_ ?_) | (refine h_kd _ _ _ ?_ ?_ ?_ ?_ ?_) | (refine h_at _ _ _ _ _ _ ?_ ?_ ?_ hA (px_UR_c pR (by omega)) ?_) | (refine h_ty _ _ _ _ _ _ ?_ ?_ ?_ hT ?_ ?_) | (refine h_ar y w _ _ _ _ ?_ ?_ ?_ ?_ ?_ ?_))
    all_goals (try dsimp only at *)
    all_goals (first | trivial | assumption | omega | (refine absurd ?_ (by assumption : px_K b n _ ≠ 8); rw [(zzF _ _ (by assumption)).1.2.1]; exact k8) | (exact (zzF _ _ (by assumption)).1.1) | (exact (zzF _ _ (by assumption)).1.2.2) | (exact ((zzG _ _ (by assumption)).1 trivial).1.1) | (exact (zzG _ _ (by assumption)).2.1) | (rw [px_us]; exact (zzG _ _ (by assumption)).2.2) | (exact (zzH _ _ _ _ (by assumption) (by assumption)).1.1) | (exact (zzH _ _ _ _ (by assumption) (by assumption)).1.2.1) | (exact (zzH _ _ _ _ (by assumption) (by assumption)).1.2.2.1) | (exact (zzH _ _ _ _ (by assumption) (by assumption)).1.2.2.2.1) | (exact (zzH _ _ _ _ (by assumption) (by assumption)).1.2.2.2.2.1) | (exact (zzH _ _ _ _ (by assumption) (by assumption)).1.2.2.2.2.2) | (exact (zzH _ _ _ _ (by assumption) (by assumption)).2 _ _ (by assumption) (by assumption) (by assumption) (by assumption) (by assumption) (by assumption)) | (have zz8 := zzF _ _ (by assumption); obtain ⟨⟨zz1, zz2, zz3⟩, zz4⟩ := zz8; first | omega | (rw [zz2]; first | assumption | omega) | (exfalso; have zz5 := congrArg (fun v => px_K b n (Int.toNat v)) zz2; dsimp only at zz5; omega)) | skip)
  · repeat' (first | (with_reducible (rintro _ rfl)) | (with_reducible intro _) | (refine And.intro ?_ ?_) | (refine h_kd _ _ _ ?_ ?_ ?_ ?_ ?_) | (refine h_at _ _ _ _ _ _ ?_ ?_ ?_ hA pR ?_))
    all_goals (try dsimp only at *)
    all_goals (first | trivial | assumption | omega | (refine absurd (by assumption : px_K b n _ = 8) ?_; rw [(zzF _ _ (by assumption)).1.2.1]; exact k8) | (exact hK _ _ (by assumption)) | (exact (zzF _ _ (by assumption)).1.1) | (exact (zzF _ _ (by assumption)).1.2.2) | (have zz8 := zzF _ _ (by assumption); obtain ⟨⟨zz1, zz2, zz3⟩, zz4⟩ := zz8; first | omega | (rw [zz2]; first | assumption | omega) | (exfalso; have zz5 := congrArg (fun v => px_K b n (Int.toNat v)) zz2; dsimp only at zz5; omega)) | skip)
theorem c_du_type {sL : Nat} {sx : Nat → Int32} (hsL : sL ≤ 3072) (b : Nat → Int) (n : Int) : ∀ g : Nat, g ≤ 21 → ∀ d, 4 + 2 * g ≤ d → ∀ (p : Int) (x : qx_T) (c a0 : Int) (s : sx_S) (K : Int → sx_S → Prop), cx_I s → a0 = 21 - (g : Int) → s.1 18 11 = p → px_TY (px_K b n) g p x c → px_UR b n s c → (∀ z t, px_UP s t x c z → K z t) → sx_C sL sx d 25 [.inr (.inl 18), .inl a0] s K := by
  intro g
  induction g with
  | zero =>
    intro _ d hd p x c a0 s K hI p0 pp pT
    exact pT.elim
  | succ g ih =>
    intro hg d hd p x c a0 s K hI p0 pp pT pR hK
    obtain ⟨e, rfl⟩ : ∃ e, d = e + 3 := ⟨d - 3, by omega⟩
    have at0 : ∀ (p : Int) (x : qx_T) (c a0 : Int) (s : sx_S) (K : Int → sx_S → Prop), cx_I s → a0 = 20 - (g : Int) → s.1 18 11 = p → px_AM (px_K b n) g p x c → px_UR b n s c → (∀ z t, px_UP s t x c z → K z t) → sx_C sL sx (e + 2) 26 [.inr (.inl 18), .inl a0] s K := fun p x c a0 s K hI p0 pp pA pR hK => sx_meth (wr := true) (n := 400) hsL (e := eX1_atom) rfl (w_du_atom (Q := fun _ _ _ => False) (c_dx_kind hsL (e + 1) (by omega) b n) (ih (by omega) (e + 1) (by omega)) hI p0 (by omega) pp pA pR hK)
    exact sx_meth (wr := true) (n := 400) hsL (e := eX1_type) rfl (w_du_type (Q := fun _ _ _ => False) (c_dx_kind hsL (e + 2) (by omega) b n) at0 (ih (by omega) (e + 2) (by omega)) (c_du_arrow hsL (e + 2) (by omega)) hI (by omega) (by omega) pp pT pR hK)
