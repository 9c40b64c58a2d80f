/-! ===== the desk's load: its answer, exactly ===== -/
theorem w_dz_gpl {CALL : sx_Ca} {sL : Nat} {sx : Nat → Int32} {Q : Nat → sx_L → sx_S → Prop} {R : Int → sx_S → Prop} (h_dz_start : ∀ (a0 : Int) (s : sx_S) (K : Int → sx_S → Prop), cx_I s → (-2147483648 ≤ a0 ∧ a0 ≤ 2147483647) → (∀ z : Int, (-2147483648 ≤ z ∧ z ≤ 2147483647) → K z s) → CALL 102 [.inr (.inl 2), .inl a0] s K) {s : sx_S} (hI : cx_I s) (hK : ∀ z : Int, (-2147483648 ≤ z ∧ z ≤ 2147483647) → R z s) : sx_wp true sL sx eX2_place CALL [] Q R 400 0 (sx_argsF 0 [.inr (.inl 7)]) [] s := by
  repeat' (first | (with_reducible intro _) | (refine And.intro ?_ ?_) | (refine hK _ ?_) | (refine h_dz_start _ _ _ ?_ ?_ ?_))
  all_goals (try dsimp only)
  repeat' (first | (with_reducible assumption) | ((with_reducible (change cx_I (sx_uf _ _ _ _, _))); refine cx_I_uf rfl rfl ?_ ?_ ?_) | ((with_reducible (change cx_I (_, sx_ua _ _ _ _, _))); refine cx_I_ua rfl rfl ?_ ?_ ?_) | ((with_reducible (change cx_I (_, sx_ua _ 16 _ _, _))); refine cx_I_ari ?_ ?_ ?_) | ((with_reducible (change cx_I (sx_uf _ 11 6 _, _))); refine cx_I_ufA rfl ?_ ?_ ?_ ?_) | (with_reducible exact cx_F_refl _ _) | ((with_reducible (change cx_F _ _ (sx_uf _ _ _ _, _))); refine cx_F_uf rfl ?_) | ((with_reducible (change cx_F _ _ (_, sx_ua _ _ _ _, _))); refine cx_F_ua rfl ?_) | ((with_reducible (change cx_I (_, sx_cpy _ _ _ _ _ _, _))); refine cx_I_cpy rfl rfl rfl (by decide) ?_) | ((with_reducible (change cx_F _ _ (_, sx_cpy _ _ _ _ _ _, _))); refine cx_F_cpy rfl ?_) | ((with_reducible (change cx_F _ _ _)); refine cx_F_step (by assumption) rfl ?_) | fail)
  all_goals (first | trivial | omega | (dsimp only at *; omega) | (simp only [sx_uf_if, sx_ua_if, sx_w_t, true_and, and_true, and_self, and_false, false_and, if_true, if_false, reduceIte] at *; omega) | (subst_vars; rfl) | (subst_vars; decide))

theorem c_dz_gpl {sL : Nat} {sx : Nat → Int32} (hsL : sL ≤ 3072) (d : Nat) (hd : 3 ≤ d) : ∀ (s : sx_S) (K : Int → sx_S → Prop), cx_I s → (∀ z : Int, (-2147483648 ≤ z ∧ z ≤ 2147483647) → K z s) → sx_C sL sx d 36 [.inr (.inl 7)] s K := by
  intro  s K hI  hK
  obtain ⟨d, rfl⟩ : ∃ e, d = e + 2 := ⟨d - 2, by omega⟩
  exact sx_meth (wr := true) (n := 400) hsL (e := eX2_place) rfl (w_dz_gpl (Q := fun _ _ _ => False) (c_dz_start hsL (d + 1) (by omega)) hI  hK)

theorem w_dz_chp {CALL : sx_Ca} {sL : Nat} {sx : Nat → Int32} {Q : Nat → sx_L → sx_S → Prop} {R : Int → sx_S → Prop} {s : sx_S} (hI : cx_I s) (hK : ∀ z : Int, (-2147483648 ≤ z ∧ z ≤ 2147483647) → R z s) : sx_wp true sL sx eX1_place CALL [] Q R 400 0 (sx_argsF 0 [.inr (.inl 18)]) [] s := by
  repeat' (first | (with_reducible intro _) | (refine And.intro ?_ ?_) | (refine hK _ ?_))
  all_goals (try dsimp only)
  repeat' (first | (with_reducible assumption) | ((with_reducible (change cx_I (sx_uf _ _ _ _, _))); refine cx_I_uf rfl rfl ?_ ?_ ?_) | ((with_reducible (change cx_I (_, sx_ua _ _ _ _, _))); refine cx_I_ua rfl rfl ?_ ?_ ?_) | ((with_reducible (change cx_I (_, sx_ua _ 16 _ _, _))); refine cx_I_ari ?_ ?_ ?_) | ((with_reducible (change cx_I (sx_uf _ 11 6 _, _))); refine cx_I_ufA rfl ?_ ?_ ?_ ?_) | (with_reducible exact cx_F_refl _ _) | ((with_reducible (change cx_F _ _ (sx_uf _ _ _ _, _))); refine cx_F_uf rfl ?_) | ((with_reducible (change cx_F _ _ (_, sx_ua _ _ _ _, _))); refine cx_F_ua rfl ?_) | ((with_reducible (change cx_I (_, sx_cpy _ _ _ _ _ _, _))); refine cx_I_cpy rfl rfl rfl (by decide) ?_) | ((with_reducible (change cx_F _ _ (_, sx_cpy _ _ _ _ _ _, _))); refine cx_F_cpy rfl ?_) | ((with_reducible (change cx_F _ _ _)); refine cx_F_step (by assumption) rfl ?_) | fail)
  all_goals (first | trivial | omega | (dsimp only at *; omega) | (simp only [sx_uf_if, sx_ua_if, sx_w_t, true_and, and_true, and_self, and_false, false_and, if_true, if_false, reduceIte] at *; omega) | (subst_vars; rfl) | (subst_vars; decide))

theorem c_dz_chp {sL : Nat} {sx : Nat → Int32} (hsL : sL ≤ 3072) (d : Nat) (hd : 2 ≤ d) : ∀ (s : sx_S) (K : Int → sx_S → Prop), cx_I s → (∀ z : Int, (-2147483648 ≤ z ∧ z ≤ 2147483647) → K z s) → sx_C sL sx d 12 [.inr (.inl 18)] s K := by
  intro  s K hI  hK
  obtain ⟨d, rfl⟩ : ∃ e, d = e + 2 := ⟨d - 2, by omega⟩
  exact sx_meth (wr := true) (n := 400) hsL (e := eX1_place) rfl (w_dz_chp (Q := fun _ _ _ => False)  hI  hK)

theorem w_dz_chn {CALL : sx_Ca} {sL : Nat} {sx : Nat → Int32} {Q : Nat → sx_L → sx_S → Prop} {R : Int → sx_S → Prop} {s : sx_S} (hI : cx_I s) (hK : ∀ z : Int, (-2147483648 ≤ z ∧ z ≤ 2147483647) → R z s) : sx_wp true sL sx eX1_number CALL [] Q R 400 0 (sx_argsF 0 [.inr (.inl 18)]) [] s := by
  repeat' (first | (with_reducible intro _) | (refine And.intro ?_ ?_) | (refine hK _ ?_))
  all_goals (try dsimp only)
  repeat' (first | (with_reducible assumption) | ((with_reducible (change cx_I (sx_uf _ _ _ _, _))); refine cx_I_uf rfl rfl ?_ ?_ ?_) | ((with_reducible (change cx_I (_, sx_ua _ _ _ _, _))); refine cx_I_ua rfl rfl ?_ ?_ ?_) | ((with_reducible (change cx_I (_, sx_ua _ 16 _ _, _))); refine cx_I_ari ?_ ?_ ?_) | ((with_reducible (change cx_I (sx_uf _ 11 6 _, _))); refine cx_I_ufA rfl ?_ ?_ ?_ ?_) | (with_reducible exact cx_F_refl _ _) | ((with_reducible (change cx_F _ _ (sx_uf _ _ _ _, _))); refine cx_F_uf rfl ?_) | ((with_reducible (change cx_F _ _ (_, sx_ua _ _ _ _, _))); refine cx_F_ua rfl ?_) | ((with_reducible (change cx_I (_, sx_cpy _ _ _ _ _ _, _))); refine cx_I_cpy rfl rfl rfl (by decide) ?_) | ((with_reducible (change cx_F _ _ (_, sx_cpy _ _ _ _ _ _, _))); refine cx_F_cpy rfl ?_) | ((with_reducible (change cx_F _ _ _)); refine cx_F_step (by assumption) rfl ?_) | fail)
  all_goals (first | trivial | omega | (dsimp only at *; omega) | (simp only [sx_uf_if, sx_ua_if, sx_w_t, true_and, and_true, and_self, and_false, false_and, if_true, if_false, reduceIte] at *; omega) | (subst_vars; rfl) | (subst_vars; decide))

theorem c_dz_chn {sL : Nat} {sx : Nat → Int32} (hsL : sL ≤ 3072) (d : Nat) (hd : 2 ≤ d) : ∀ (s : sx_S) (K : Int → sx_S → Prop), cx_I s → (∀ z : Int, (-2147483648 ≤ z ∧ z ≤ 2147483647) → K z s) → sx_C sL sx d 13 [.inr (.inl 18)] s K := by
  intro  s K hI  hK
  obtain ⟨d, rfl⟩ : ∃ e, d = e + 2 := ⟨d - 2, by omega⟩
  exact sx_meth (wr := true) (n := 400) hsL (e := eX1_number) rfl (w_dz_chn (Q := fun _ _ _ => False)  hI  hK)

theorem w_dl {CALL : sx_Ca} {sL : Nat} {sx : Nat → Int32} {Q : Nat → sx_L → sx_S → Prop} {R : Int → sx_S → Prop} (h_dz_gpl : ∀ (s : sx_S) (K : Int → sx_S → Prop), cx_I s → (∀ z : Int, (-2147483648 ≤ z ∧ z ≤ 2147483647) → K z s) → CALL 36 [.inr (.inl 7)] s K) (h_dz_chp : ∀ (s : sx_S) (K : Int → sx_S → Prop), cx_I s → (∀ z : Int, (-2147483648 ≤ z ∧ z ≤ 2147483647) → K z s) → CALL 12 [.inr (.inl 18)] s K) (h_dz_chn : ∀ (s : sx_S) (K : Int → sx_S → Prop), cx_I s → (∀ z : Int, (-2147483648 ≤ z ∧ z ≤ 2147483647) → K z s) → CALL 13 [.inr (.inl 18)] s K) {s : sx_S} {a0 : Int} {Z1 Z2 Z3 : sx_S → Prop} {Zr : sx_S → Prop} {Zw : Prop} (hI : cx_I s) (ra : -2147483648 ≤ a0 ∧ a0 ≤ 2147483647) (hN : a0 < 0 ∨ s.1 0 1 < a0 → R (-1) s) (h_rd : 0 ≤ a0 → a0 ≤ s.1 0 1 → ∀ K : Int → sx_S → Prop, (∀ z t, Z1 t → K z t) → CALL 100 [.inr (.inl 2), .inr (.inl 1), .inl a0] (sx_uf (sx_uf (sx_uf (sx_uf (sx_uf s.1 0 1 0) 0 2 0) 0 3 (-1)) 0 4 (-1)) 0 5 (-1), s.2) K) (h_ga : ∀ t, Z1 t → ∀ K : Int → sx_S → Prop, (∀ u, Z2 u → K 1 u) → (∀ u, Z3 u → K 0 u) → CALL 35 [.inr (.inl 7)] t K) (h3 : ∀ u, Z3 u → cx_I u) (hK2 : ∀ u, Z3 u → ∀ t, R (-2) t) (h_ca : ∀ t, Z2 t → ∀ K : Int → sx_S → Prop, (∀ u, cx_I u → Zr u → K 1 u) → (Zw → ∀ u, cx_I u → K 0 u) → CALL 11 [.inr (.inl 18)] t K) (hK0 : ∀ u, cx_I u → Zr u → R 0 (sx_uf u.1 0 2 1, u.2)) (hK3 : Zw → ∀ t, R (-3) t) : sx_wp true sL sx eX11_load CALL [] Q R 400 0 (sx_argsF 0 [.inr (.inl 0), .inl a0]) [] s := by
  have h1 := hI.fld 0 1 (by decide) rfl
  by_cases hx : 0 ≤ a0 ∧ a0 ≤ s.1 0 1
  · have h_rd' := h_rd hx.1 hx.2
    clear hN h_rd
    repeat' (first | (with_reducible (rintro _ rfl)) | (with_reducible intro _) | (refine And.intro ?_ ?_) | (refine h_rd' _ ?_) | (refine h_ga _ ?_ _ ?_ ?_) | (refine h_ca _ ?_ _ ?_ ?_) | (refine h_dz_gpl _ _ ?_ ?_) | (refine h_dz_chp _ _ ?_ ?_) | (refine h_dz_chn _ _ ?_ ?_))
    all_goals (try dsimp only at *)
    all_goals (first | trivial | assumption | omega | (exfalso; omega) | (exact h3 _ (by assumption)) | (exact hK0 _ (by assumption) (by assumption)) | (exact hK3 (by assumption) _) | (exact hK2 _ (by assumption) _) | (refine cx_I_uf rfl rfl ?_ ?_ ?_ <;> first | assumption | omega) | skip)
  · have hN' := hN (by omega)
    clear h_rd h_ga h_ca
    repeat' (first | (with_reducible (rintro _ rfl)) | (with_reducible intro _) | (refine And.intro ?_ ?_) | (fail))
    all_goals (try dsimp only at *)
    all_goals (first | trivial | assumption | omega | (exfalso; omega) | skip)

theorem st_dl_load {sL : Nat} {sx : Nat → Int32} (hsL : sL ≤ 3072) {d : Nat} (hd : 100 ≤ d) (h_ac : ∀ (b : Nat → Int) (n : Int), ∀ (l : List ((Int × Int × qx_T) × (px_N × px_N))) (s : sx_S) (R : Int → sx_S → Prop), cx_I s → dz_TN b n s → px_TX (px_K b n) l 0 → (px_ck (px_SN b n) l [] [] 0 → ∀ t, cx_I t → (t.1 19 2 = (px_c3 3 l : Int) ∧ t.1 22 2 = (px_c3 4 l : Int) ∧ t.1 18 10 = (px_c3 5 l : Int)) → (∃ C M, dz_E b n C M t ∧ dl_pr b n (vl_eq l [] []) t ∧ t.1 11 6 ≤ 960 ∧ M = vl_mf l [] ∧ C = vl_kf l []) → R 1 t) → (¬ px_ck (px_SN b n) l [] [] 0 → ∀ t, cx_I t → R 0 t) → sx_C sL sx (d + 1) 11 [.inr (.inl 18)] s R) : ∀ (a0 : Int) (s : sx_S) (K : Int → sx_S → Prop), cx_I s → (-2147483648 ≤ a0 ∧ a0 ≤ 2147483647) → (∀ (z : Int) (t : sx_S), (((a0 < 0 ∨ s.1 0 1 < a0) ∧ z = -1 ∧ t = s) ∨ ((0 ≤ a0 ∧ a0 ≤ s.1 0 1) ∧ px_an (s.2.1 1) a0 z ∧ (z = 0 → cx_I t ∧ ∃ l, px_TX (px_K (s.2.1 1) a0) l 0 ∧ px_ck (px_SN (s.2.1 1) a0) l [] [] 0 ∧ (t.1 19 2 = (px_c3 3 l : Int) ∧ t.1 22 2 = (px_c3 4 l : Int) ∧ t.1 18 10 = (px_c3 5 l : Int)) ∧ ∃ bb, px_SN bb a0 = px_SN (s.2.1 1) a0 ∧ dz_E bb a0 (vl_kf l []) (vl_mf l []) t ∧ dl_pr (s.2.1 1) a0 (vl_eq l [] []) t ∧ t.1 11 6 ≤ 960))) → K z t) → sx_C sL sx (d + 2) 138 [.inr (.inl 0), .inl a0] s K := by
  intro a0 s K hI ra hK
  have h1 := hI.fld 0 1 (by decide) rfl
  have i1 : cx_I (sx_uf (sx_uf (sx_uf (sx_uf (sx_uf s.1 0 1 0) 0 2 0) 0 3 (-1)) 0 4 (-1)) 0 5 (-1), s.2) := cx_I_uf rfl rfl (cx_I_uf rfl rfl (cx_I_uf rfl rfl (cx_I_uf rfl rfl (cx_I_uf rfl rfl hI (by omega) (by omega)) (by omega) (by omega)) (by omega) (by omega)) (by omega) (by omega)) (by omega) (by omega)
  let bb : Nat → Int := sx_cpy s.2.1 1 3 (Int.toNat 0) (Int.toNat 0) a0.toNat 3
  have hbb : 0 ≤ a0 → ∀ k : Nat, (k : Int) < a0 → bb k = s.2.1 1 k := fun h0 k hk => by
    show (if Int.toNat 0 ≤ k ∧ k < Int.toNat 0 + a0.toNat then s.2.1 1 (Int.toNat 0 + (k - Int.toNat 0)) else s.2.1 3 k) = _
    rw [if_pos ⟨Nat.zero_le _, by show k < 0 + a0.toNat; omega⟩]
    show s.2.1 1 (0 + (k - 0)) = _
    rw [Nat.zero_add, Nat.sub_zero]
  refine sx_meth (wr := true) (n := 400) hsL (e := eX11_load) rfl (w_dl (Q := fun _ _ _ => False) (Z1 := fun t => cx_I t ∧ dz_TN bb a0 t ∧ 0 ≤ a0 ∧ a0 ≤ s.1 0 1) (Z2 := fun t => cx_I t ∧ dz_TN bb a0 t ∧ (0 ≤ a0 ∧ a0 ≤ s.1 0 1) ∧ ∃ l, px_TX (px_K bb a0) l 0) (Z3 := fun t => cx_I t ∧ (0 ≤ a0 ∧ a0 ≤ s.1 0 1) ∧ ∀ l, ¬ px_TX (px_K bb a0) l 0) (Zr := fun t => (0 ≤ a0 ∧ a0 ≤ s.1 0 1) ∧ ∃ l, px_TX (px_K bb a0) l 0 ∧ px_ck (px_SN bb a0) l [] [] 0 ∧ (t.1 19 2 = (px_c3 3 l : Int) ∧ t.1 22 2 = (px_c3 4 l : Int) ∧ t.1 18 10 = (px_c3 5 l : Int)) ∧ ∃ C M, dz_E bb a0 C M t ∧ dl_pr bb a0 (vl_eq l [] []) t ∧ t.1 11 6 ≤ 960 ∧ M = vl_mf l [] ∧ C = vl_kf l []) (Zw := (0 ≤ a0 ∧ a0 ≤ s.1 0 1) ∧ ∃ l, px_TX (px_K bb a0) l 0 ∧ ¬ px_ck (px_SN bb a0) l [] [] 0) (c_dz_gpl hsL (d + 1) (by omega)) (c_dz_chp hsL (d + 1) (by omega)) (c_dz_chn hsL (d + 1) (by omega)) hI ra (fun q => hK _ _ (Or.inl ⟨q, rfl, rfl⟩)) ?_ ?_ (fun _ q => q.1) ?_ ?_ ?_ ?_)
  · intro a b K' hK'
    exact c_dx_tkread hsL (d + 1) (by omega) bb a0 a0 _ K' i1 (by omega) rfl rfl (fun z t t1 _ t3 t4 t5 => hK' z t ⟨t1, fun _ => ⟨t3, t4, t5⟩, a, b⟩)
  · rintro t ⟨t1, t2, t3, t4⟩ K' k1 k2
    have tk := (t2 trivial).2.2
    have hF : ∀ c, cx_F [(7, 7)] t ((sx_uf t.1 7 1 c, t.2) : sx_S) := fun c => cx_F_uf rfl (cx_F_refl _ _)
    have r : ∀ c : Int, 0 ≤ c → px_lv bb a0 c.toNat → c ≤ 1000 := fun c h0 hl => by
      have q1 := (px_TK_kd tk h0 hl).2.2
      have q2 := (tk trivial).1
      omega
    refine c_dg_acc hsL bb a0 (d + 1) (by omega) t K' t1 tk (fun hl c c0 cl => k1 _ ⟨cx_I_uf rfl rfl t1 ?_ ?_, fun _ => ?_, ⟨t3, t4⟩, hl⟩) (fun hl c c0 cl => k2 _ ⟨cx_I_uf rfl rfl t1 ?_ ?_, ⟨t3, t4⟩, hl⟩)
    · omega
    · have := r c c0 cl
      omega
    · exact ⟨(t2 trivial).1, (t2 trivial).2.1, px_TK_F (hF c) rfl rfl rfl rfl tk⟩
    · omega
    · have := r c c0 cl
      omega
  · rintro u ⟨_, q1, q2⟩ t
    exact hK _ _ (Or.inr ⟨q1, px_an_cg (hbb q1.1) q1.1 (Or.inl ⟨rfl, q2⟩), fun z => absurd z (by decide)⟩)
  · rintro t ⟨t1, t2, t3, l, t4⟩ K' k1 k2
    exact h_ac bb a0 l t K' t1 t2 t4 (fun q u hu hc hx => k1 u hu ⟨t3, l, t4, q, hc, hx⟩) (fun q u hu => k2 ⟨t3, l, t4, q⟩ u hu)
  · rintro u uI ⟨q1, l, q2, q3, q4, C, M, q5, q6, q7, rfl, rfl⟩
    have eK := px_K_cg (hbb q1.1)
    have eS : px_SN bb a0 = px_SN (s.2.1 1) a0 := by
      funext i j
      exact propext (px_sn_cg (hbb q1.1) i.toNat j.toNat q1.1)
    have q6' : dl_pr (s.2.1 1) a0 (vl_eq l [] []) u := fun _ k p hk => by
      obtain ⟨L, R, x, a1, a2, a3, a4⟩ := q6 trivial k p hk
      refine ⟨L, R, x, a1, a2, fun _ => ?_, fun _ => ?_⟩
      · have z := a3 trivial
        rw [eS] at z
        exact z
      · have z := a4 trivial
        rw [eS] at z
        exact z
    refine hK _ _ (Or.inr ⟨q1, px_an_cg (hbb q1.1) q1.1 (Or.inr ⟨l, q2, Or.inl ⟨rfl, q3⟩⟩), fun _ => ⟨cx_I_uf rfl rfl uI (by omega) (by omega), l, by rw [← eK]; exact q2, by rw [← eS]; exact q3, q4, bb, eS, ?_, ?_, q7⟩⟩)
    · exact fun _ => q5 trivial
    · exact fun _ => q6' trivial
  · rintro ⟨q1, l, q2, q3⟩ t
    exact hK _ _ (Or.inr ⟨q1, px_an_cg (hbb q1.1) q1.1 (Or.inr ⟨l, q2, Or.inr ⟨rfl, q3⟩⟩), fun z => absurd z (by decide)⟩)
