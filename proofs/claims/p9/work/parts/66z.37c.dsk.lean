/-! ===== the desk's checker: types, exactly ===== -/
def dz_f (W : List Nat) (s t : sx_S) : Prop := ∀ k, W.contains k = false → t.1 18 k = s.1 18 k
def px_UP (s t : sx_S) (x : qx_T) (c z : Int) : Prop := True → (cx_I t ∧ cx_F [(8, 10), (18, 18)] s t) ∧ t.1 18 11 = c ∧ dz_f [11] s t ∧ (dx_is t x z ∧ dx_TI t ∧ dx_tu s t) ∧ 2 ≤ t.1 8 2 ∧ t.1 8 2 ≤ s.1 8 2 + (c - s.1 18 11)
def px_UR (b : Nat → Int) (n : Int) (s : sx_S) (c : Int) : Prop := True → px_TK b n s ∧ 0 ≤ s.1 18 11 ∧ px_lv b n (s.1 18 11).toNat ∧ dx_TI s ∧ 2 ≤ s.1 8 2 ∧ s.1 8 2 + (c - s.1 18 11) ≤ 255
theorem px_lv_nk {b : Nat → Int} {n a c : Int} (h : px_lv b n a.toNat) (h0 : 0 ≤ a) (hk : px_nk (px_K b n) a c) (hc : 0 ≤ c) : px_lv b n c.toNat := fun j hj => by
  by_cases q : j < a.toNat
  · exact h j q
  · have := hk (j : Int) (by omega) (by omega)
    rw [Int.toNat_natCast] at this
    exact this
theorem px_AM_k {K : Nat → Int} {f : Nat} {a : Int} {y : qx_T} {e : Int} (h : px_AM K f a y e) : px_nk K a e ∧ a < e := by
  rcases h with ⟨q0, _, q⟩ | ⟨q0, _, q⟩ | ⟨q0, g, q1, q2, q⟩
  · subst q
    exact ⟨px_nk_1 (by omega), by omega⟩
  · subst q
    exact ⟨px_nk_1 (by omega), by omega⟩
  · subst q
    have := px_TY_le q1
    exact ⟨px_nk_t (px_nk_1 (by omega)) (px_nk_t (px_TY_k q1) (px_nk_1 (by omega))), by omega⟩
theorem dz_u {s : sx_S} {v : Int} : dz_f [11] s (sx_uf s.1 18 11 v, s.2) := fun k hk => by
  show sx_uf s.1 18 11 v 18 k = _
  rw [sx_uf_if]
  refine if_neg (fun c => ?_)
  rw [c.2] at hk
  exact absurd hk (by decide)
theorem dz_t {s t u : sx_S} (h2 : dz_f [11] t u) (h1 : dz_f [11] s t) : dz_f [11] s u := fun k hk => (h2 k hk).trans (h1 k hk)
section PXU
variable {b : Nat → Int} {n : Int} {s t : sx_S} {x y : qx_T} {c e z w p : Int}
theorem dx_u8 {v : Int} : sx_uf s.1 18 11 v 8 2 = s.1 8 2 := by
  rw [sx_uf_if]
  exact if_neg (fun c => absurd c.1 (by decide))
/-- one token on -/
theorem px_UP_n (h : px_UP s t x c z) (hc : 0 ≤ c) (hc2 : c < 2147483647) (hw : w = c + 1) (he : e = c + 1) (hr : c + 1 ≤ 1000) : px_UP s (sx_uf t.1 18 11 w, t.2) x e z := fun _ => by
  obtain ⟨⟨a1, a2⟩, a3, a4, ⟨a5, a6, a7⟩, a8, a9⟩ := h trivial
  subst hw he
  refine ⟨⟨cx_I_uf rfl rfl a1 (by omega) (by omega), cx_F_uf rfl a2⟩, px_us t.1 18 11 (c + 1), dz_t dz_u a4, ⟨?_, ?_, ?_⟩, ?_, ?_⟩
  · unfold dx_is at a5 ⊢
    dsimp only
    rw [dx_u8]
    exact a5
  · unfold dx_TI at a6 ⊢
    dsimp only
    rw [dx_u8]
    exact a6
  · intro j
    dsimp only
    rw [dx_u8]
    exact a7 j
  · dsimp only
    rw [dx_u8]
    exact a8
  · dsimp only
    rw [dx_u8]
    omega
theorem px_UP_0 (hI : cx_I s) (hT : dx_TI s) (h2 : 2 ≤ s.1 8 2) (hx : dx_is s x z) : px_UP s s x (s.1 18 11) z := fun _ => ⟨⟨hI, cx_F_refl _ _⟩, rfl, fun _ _ => rfl, ⟨hx, hT, dx_tu_refl s⟩, h2, by omega⟩
theorem px_UP_t {u : sx_S} {x0 : qx_T} {z0 : Int} (h : px_UP s t x0 e z0) (g : px_UP t u x c z) : px_UP s u x c z := fun _ => by
  obtain ⟨⟨a1, a2⟩, a3, a4, ⟨a5, a6, a7⟩, a8, a9⟩ := h trivial
  obtain ⟨⟨b1, b2⟩, b3, b4, ⟨b5, b6, b7⟩, b8, b9⟩ := g trivial
  exact ⟨⟨b1, cx_F_step b2 rfl a2⟩, b3, dz_t b4 a4, ⟨b5, b6, dx_tu_trans b7 a7⟩, b8, by omega⟩
theorem px_UR_t {x0 : qx_T} {z0 : Int} (h : px_UP s t x0 e z0) (g : px_UR b n s c) (hl : px_lv b n e.toNat) (he : 0 ≤ e) : px_UR b n t c := fun _ => by
  obtain ⟨⟨a1, a2⟩, a3, a4, ⟨a5, a6, a7⟩, a8, a9⟩ := h trivial
  obtain ⟨r1, r2, r3, r4, r5, r6⟩ := g trivial
  exact ⟨px_TK_F a2 rfl rfl rfl rfl r1, by omega, by rw [a3]; exact hl, a6, a8, by omega⟩
theorem px_UR_c {c' : Int} (g : px_UR b n s c) (hc : c' ≤ c) : px_UR b n s c' := fun _ => by
  obtain ⟨r1, r2, r3, r4, r5, r6⟩ := g trivial
  exact ⟨r1, r2, r3, r4, r5, by omega⟩
end PXU

theorem w_du_atom {CALL : sx_Ca} {b : Nat → Int} {n : Int} {g : Nat} {sL : Nat} {sx : Nat → Int32} {Q : Nat → sx_L → sx_S → Prop} {R : Int → sx_S → Prop} (h_kd : ∀ (t0 : Int) (s : sx_S) (K : Int → sx_S → Prop), cx_I s → (0 ≤ t0 ∧ t0 ≤ 1000) → (px_TK b n s) → (px_lv b n t0.toNat) → (∀ z : Int, (z = px_K b n t0.toNat) → K z s) → CALL 101 [.inr (.inl 2), .inl t0] s K) (h_ty : ∀ (p : Int) (x : qx_T) (c a0 : Int) (s : sx_S) (K : Int → sx_S → Prop), cx_I s → a0 = 21 - (g : Int) → s.1 18 11 = p → px_TY (px_K b n) g p x c → px_UR b n s c → (∀ z t, px_UP s t x c z → K z t) → CALL 25 [.inr (.inl 18), .inl a0] s K) {s : sx_S} {a0 p c : Int} {x : qx_T} (hI : cx_I s) (p0 : a0 = 20 - (g : Int)) (pg : g ≤ 20) (pp : s.1 18 11 = p) (pA : px_AM (px_K b n) g p x c) (pR : px_UR b n s c) (hK : ∀ z t, px_UP s t x c z → R z t) : sx_wp true sL sx eX1_atom CALL [] Q R 400 0 (sx_argsF 0 [.inr (.inl 18), .inl a0]) [] s := by
  subst pp
  obtain ⟨r1, r2, r3, r4, r5, r6⟩ := pR trivial
  have zzk := px_TK_kd r1 r2 r3
  have zzt := (r1 trivial).1
  have zzr := px_K_r b n (s.1 18 11).toNat
  have zzq : sx_w true (a0 + 1) = 21 - (g : Int) := by rw [px_wid (by omega) (by omega)]; omega
  have zzw : sx_w true (s.1 18 11 + 1) = s.1 18 11 + 1 := px_wid (by omega) (by omega)
  have zz0 : ∀ y z, dx_is s y z → px_UP s (sx_uf s.1 18 11 (sx_w true (s.1 18 11 + 1)), s.2) y (s.1 18 11 + 1) z := fun y z h => px_UP_n (px_UP_0 hI r4 r5 h) r2 (by omega) zzw rfl (by omega)
  rcases pA with ⟨k, rfl, rfl⟩ | ⟨k, rfl, rfl⟩ | ⟨k, e, hT, k10, rfl⟩
  · have zz1 := hK _ _ (zz0 qx_o 0 rfl)
    have zzc := ((zz0 qx_o 0 rfl) trivial).1.1
    repeat' (first | (with_reducible (rintro _ rfl)) | (with_reducible intro _) | (refine And.intro ?_ ?_) | (refine h_kd _ _ _ ?_ ?_ ?_ ?_ ?_))
    all_goals (try dsimp only at *)
    all_goals (first | trivial | assumption | omega | (exfalso; omega) | skip)
  · have zz1 := hK _ _ (zz0 qx_i 1 ⟨rfl, Or.inl ⟨rfl, rfl, rfl, rfl⟩⟩)
    have zzc := ((zz0 qx_o 0 rfl) trivial).1.1
    repeat' (first | (with_reducible (rintro _ rfl)) | (with_reducible intro _) | (refine And.intro ?_ ?_) | (refine h_kd _ _ _ ?_ ?_ ?_ ?_ ?_))
    all_goals (try dsimp only at *)
    all_goals (first | trivial | assumption | omega | (exfalso; omega) | skip)
  · have zzc := ((zz0 qx_o 0 rfl) trivial).1.1
    have zzl := px_TY_le hT
    have zzR : px_UR b n (sx_uf s.1 18 11 (sx_w true (s.1 18 11 + 1)), s.2) e := px_UR_c (px_UR_t (zz0 qx_o 0 rfl) pR (px_lv_up r3 r2 (by omega) rfl) (by omega)) (by omega)
    have zzF : ∀ z t, px_UP (sx_uf s.1 18 11 (sx_w true (s.1 18 11 + 1)), s.2) t x e z → R z (sx_uf t.1 18 11 (sx_w true (t.1 18 11 + 1)), t.2) ∧ cx_I t ∧ t.1 18 11 = e := fun z t h => by
      have h1 := px_UP_t (zz0 qx_o 0 rfl) h
      have h2 := (h1 trivial).2.1
      refine ⟨hK _ _ (px_UP_n h1 (by omega) (by omega) (by rw [h2, px_wid (by omega) (by omega)]) rfl (by omega)), (h1 trivial).1.1, h2⟩
    repeat' (first | (with_reducible (rintro _ rfl)) | (with_reducible intro _) | (refine And.intro ?_ ?_) | (refine h_kd _ _ _ ?_ ?_ ?_ ?_ ?_) | (refine h_ty _ _ _ _ _ _ ?_ ?_ ?_ hT ?_ ?_))
    all_goals (try dsimp only at *)
    all_goals (first | trivial | assumption | omega | (exfalso; omega) | (exact (zzF _ _ (by assumption)).1) | (exact (zzF _ _ (by assumption)).2.1) | (rw [px_us, zzw]) | (have zz8 := (zzF _ _ (by assumption)).2.2; omega) | skip)
