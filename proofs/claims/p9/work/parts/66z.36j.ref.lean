section
/-! ===== the reference: equation, exactly ===== -/
/-- a tree that was read -/
def px_sh : px_N → Prop × Prop
  | .leaf => (False, True)
  | .inner g _ _ f x => ((g = 0 ∧ (px_sh f).1) ∨ (g ≠ 0 ∧ (px_sh f).2), ((g = 0 ∧ (px_sh f).1) ∨ (g ≠ 0 ∧ (px_sh f).2)) ∧ (px_sh x).2)
def px_hh : px_N → Nat × Nat
  | .leaf => (0, 0)
  | .inner g _ _ f x => (if g = 0 then 1 + (px_hh f).1 else 1 + (px_hh f).2, max (if g = 0 then 1 + (px_hh f).1 else 1 + (px_hh f).2) (px_hh x).2)
theorem px_rw_is {s : sx_S} (h9 : 2 ≤ s.1 66 9) : ∀ {N : rf_N} {n' : px_N}, px_is s N n' → ((px_sh n').1 → (rf_rw s N).1) ∧ ((px_sh n').2 → (rf_rw s N).2)
  | .leaf, .leaf, _ => ⟨id, id⟩
  | .leaf, .inner _ _ _ _ _, h => h.elim
  | .inner _ _ _ _ _, .leaf, h => h.elim
  | .inner j k u f x, .inner g q u' f' x', h => by
    obtain ⟨⟨_, h2⟩, h3, h4⟩ := h
    have hf := px_rw_is h9 h3
    have hx := px_rw_is h9 h4
    have h1 : (px_sh (.inner g q u' f' x')).1 → (rf_rw s (.inner j k u f x)).1 := by
      rintro (⟨a, b⟩ | ⟨a, b⟩) <;> rcases h2 with ⟨c1, c2, c3, c4⟩ | ⟨c1, c2, _⟩
      · exact Or.inl ⟨c1, ⟨qx_sh q.2, qx_ty_sh h9 c3, by rw [c4, qx_sh_at]⟩, hf.1 b⟩
      · omega
      · exact absurd c2 a
      · exact Or.inr ⟨c1, hf.2 b⟩
    exact ⟨h1, fun q => ⟨h1 q.1, hx.2 q.2⟩⟩
theorem px_ht_is {s : sx_S} : ∀ {N : rf_N} {n' : px_N}, px_is s N n' → rf_ht N = px_hh n'
  | .leaf, .leaf, _ => rfl
  | .leaf, .inner _ _ _ _ _, h => h.elim
  | .inner _ _ _ _ _, .leaf, h => h.elim
  | .inner j k u f x, .inner g q u' f' x', h => by
    obtain ⟨⟨_, h2⟩, h3, h4⟩ := h
    have e : (k.1 = 0) = (g = 0) := by
      rcases h2 with ⟨c1, c2, _⟩ | ⟨c1, c2, _⟩
      · exact propext ⟨fun _ => c2, fun _ => c1⟩
      · exact propext ⟨fun z => by omega, fun z => by omega⟩
    show ((if k.1 = 0 then 1 + (rf_ht f).1 else 1 + (rf_ht f).2, max (if k.1 = 0 then 1 + (rf_ht f).1 else 1 + (rf_ht f).2) (rf_ht x).2) : Nat × Nat) = (if g = 0 then 1 + (px_hh f').1 else 1 + (px_hh f').2, max (if g = 0 then 1 + (px_hh f').1 else 1 + (px_hh f').2) (px_hh x').2)
    rw [px_ht_is h3, px_ht_is h4]
    simp only [e]
theorem px_EV_nil {m : Int} {s : sx_S} (h : s.1 66 34 = 0) : px_EV m s [] := fun _ => ⟨⟨by rw [h]; rfl, fun k hk => absurd hk (Nat.not_lt_zero _)⟩, fun j k _ hk => absurd hk (Nat.not_lt_zero _)⟩
theorem w_q_eq_54 {CALL : sx_Ca} {sL : Nat} {sx : Nat → Int32} {Q : Nat → sx_L → sx_S → Prop} {R : Int → sx_S → Prop} (h_wrong : ∀ (a0 a1 : Int) (s : sx_S) (K : Int → sx_S → Prop), cx_I s → (1 ≤ a0 ∧ a0 ≤ 6) → (0 ≤ a1 ∧ a1 ≤ 241) → (∀ (z : Int) (t : sx_S), cx_I t → cx_F [(66, 66)] s t → (rf_f [40, 41] s t) → (t.1 66 40 ≠ 0) → ((s.1 66 40 ≠ 0 ∧ t.1 66 40 = s.1 66 40 ∧ t.1 66 41 = s.1 66 41) ∨ (s.1 66 40 = 0 ∧ t.1 66 40 = a0 ∧ t.1 66 41 = a1)) → K z t) → CALL 165 [.inr (.inl 66), .inl a0, .inl a1] s K) {s : sx_S} {r x2 x3 : Int} {PS : Int → Prop} (hI : cx_I s) (q : 0 ≤ r ∧ r ≤ 59) (hE : s.1 66 40 ≠ 0 → Q 81 [(0, .inr (.inl 66)), (1, .inl r)] s) (hS : s.1 66 40 = 0 → ∀ K : Int → sx_S → Prop, (∀ z, (0 ≤ z ∧ z ≤ 1) → PS z → K z s) → CALL 166 [.inr (.inl 66), .inl x2, .inl x3] s K) (hQ1 : s.1 66 40 = 0 → ∀ z, z ≠ 0 → PS z → Q 81 [(0, .inr (.inl 66)), (1, .inl r)] s) (hW : (∃ z, z = 0 ∧ PS z) → ∀ (t' : sx_S), cx_I t' → cx_F [(66, 66)] s t' → rf_f [40, 41] s t' → t'.1 66 40 ≠ 0 → s.1 66 40 = 0 → (0 ≤ t'.1 66 41 ∧ t'.1 66 41 ≤ 241) → Q 81 [(0, .inr (.inl 66)), (1, .inl r)] t') : sx_wp true sL sx eX12_equation CALL [(32, [0, 1, 2]), (54, [0, 1, 2, 3]), (81, [0, 1])] Q R 400 54 [(0, .inr (.inl 66)), (1, .inl r), (2, .inl x2), (3, .inl x3)] [] s := by
  repeat' (first | (with_reducible intro _) | (refine And.intro ?_ ?_) | (refine hE (by first | omega | (dsimp only at *; omega) | (subst_vars; omega))) | (refine hQ1 (by first | omega | (dsimp only at *; omega) | (subst_vars; omega)) _ (by first | omega | (dsimp only at *; omega) | (subst_vars; omega)) (by assumption)) | (refine hS (by first | omega | (dsimp only at *; omega) | (subst_vars; omega)) _ ?_) | (refine h_wrong _ _ _ _ ?_ ?_ ?_ ?_) | (refine hW ⟨_, by first | omega | (dsimp only at *; omega) | (subst_vars; omega), by assumption⟩ _ (by assumption) (by assumption) (by assumption) (by assumption) (by first | omega | (dsimp only at *; omega) | (subst_vars; omega)) ?_))
  all_goals (try dsimp only)
  repeat' (first | (with_reducible assumption) | ((with_reducible (change cx_I (sx_uf _ _ _ _, _))); refine cx_I_uf rfl rfl ?_ ?_ ?_) | ((with_reducible (change cx_I (_, sx_ua _ _ _ _, _))); refine cx_I_ua rfl rfl ?_ ?_ ?_) | ((with_reducible (change cx_I (_, sx_ua _ 16 _ _, _))); refine cx_I_ari ?_ ?_ ?_) | ((with_reducible (change cx_I (sx_uf _ 11 6 _, _))); refine cx_I_ufA rfl ?_ ?_ ?_ ?_) | (with_reducible exact cx_F_refl _ _) | ((with_reducible (change cx_F _ _ (sx_uf _ _ _ _, _))); refine cx_F_uf rfl ?_) | ((with_reducible (change cx_F _ _ (_, sx_ua _ _ _ _, _))); refine cx_F_ua rfl ?_) | ((with_reducible (change cx_I (_, sx_cpy _ _ _ _ _ _, _))); refine cx_I_cpy rfl rfl rfl (by decide) ?_) | ((with_reducible (change cx_F _ _ (_, sx_cpy _ _ _ _ _ _, _))); refine cx_F_cpy rfl ?_) | ((with_reducible (change cx_F _ _ _)); refine cx_F_step (by assumption) rfl ?_) | ((with_reducible (change rf_f _ _ (sx_uf _ 66 _ _, _))); refine rf_f_uf rfl ?_) | ((with_reducible (change rf_f _ _ _)); exact (fun _ _ => rfl)) | ((with_reducible (change rf_f _ _ (_, sx_ua _ _ _ _, _))); refine rf_f_ua ?_) | ((with_reducible (change rf_f _ _ _)); assumption) | ((with_reducible (change rf_f _ _ _)); refine rf_f_step (by assumption) rfl ?_) | ((with_reducible (change rf_f _ _ _)); refine rf_f_F (by assumption) rfl ?_) | ((with_reducible (change rf_A _ (sx_uf _ _ _ _, _))); refine rf_A_uf ?_) | ((with_reducible (change rf_A _ (_, sx_ua _ _ _ _, _))); refine rf_A_ua rfl ?_) | ((with_reducible (change rf_A _ _)); assumption) | ((with_reducible (change rf_A _ _)); refine rf_A_F (by assumption) rfl ?_) | fail)
  all_goals (first | trivial | assumption | omega | (dsimp only at *; omega) | (simp only [sx_uf_if, sx_ua_if, sx_w_t, true_and, and_true, and_self, and_false, false_and, if_true, if_false, reduceIte] at *; omega) | skip)
end
section
/-! ===== the reference: declare, exactly ===== -/
theorem px_E_W {V : List (Nat × Nat)} {W : List Nat} {b : Nat → Int} {n m : Int} {C M : List (Int × qx_T)} {s t : sx_S} (hF : cx_F V s t) (hV : (cx_outb V 68 && cx_outb V 69 && cx_outb V 70 && cx_outb V 71 && cx_outb V 95 && cx_outb V 96 && cx_outb V 97 && cx_outb V 123 && cx_outb V 72 && cx_outb V 73) = true) (hf : rf_f W s t) (hW : (W.contains 3 || W.contains 9 || W.contains 42 || W.contains 45) = false) (h : px_E b n m C M s) : px_E b n m C M t := by
  simp only [Bool.and_eq_true] at hV
  simp only [Bool.or_eq_false_iff] at hW
  obtain ⟨⟨⟨⟨⟨⟨⟨⟨⟨v1, v2⟩, v3⟩, v4⟩, v5⟩, v6⟩, v7⟩, v8⟩, v9⟩, v10⟩ := hV
  obtain ⟨⟨⟨w1, w2⟩, w3⟩, w4⟩ := hW
  have tu : rf_tu s t := fun j => ⟨Int.le_of_eq (hf 9 w2).symm, fun _ => ⟨by rw [(hF.same 72 v9).2], by rw [(hF.same 73 v10).2]⟩⟩
  intro _
  obtain ⟨a, c, d⟩ := h trivial
  refine ⟨fun _ => ?_, fun _ => ?_, fun _ => ?_⟩
  · obtain ⟨a1, a2, a3⟩ := a trivial
    refine ⟨(hF.same 68 v1).2.trans a1, (hf 3 w1).trans a2, fun k hk => ?_⟩
    rw [(hF.same 69 v2).2, (hF.same 70 v3).2, (hF.same 71 v4).2]
    exact a3 k hk
  · obtain ⟨c1, c2⟩ := c trivial
    refine ⟨by rw [hf 42 w3]; exact c1, fun k hk => ?_⟩
    obtain ⟨e, d1, d2, d3, d4⟩ := c2 k hk
    rw [(hF.same 95 v5).2, (hF.same 96 v6).2]
    exact ⟨e, d1, d2, d3, qx_is_up d4 tu⟩
  · obtain ⟨c1, c2⟩ := d trivial
    refine ⟨by rw [hf 45 w4]; exact c1, fun k hk => ?_⟩
    obtain ⟨e, d1, d2, d3, d4⟩ := c2 k hk
    rw [(hF.same 97 v7).2, (hF.same 123 v8).2]
    exact ⟨e, d1, d2, d3, qx_is_up d4 tu⟩
def px_d2 (b : Nat → Int) (n : Int) (C M : List (Int × qx_T)) (a : Int) (P : Prop) (t : sx_S) : Prop := True → (t.1 66 40 = 0 ↔ (P ∧ px_nv (px_SN b n) C a ∧ px_nv (px_SN b n) M a))
section PXD
variable {b : Nat → Int} {n m : Int} {C M : List (Int × qx_T)} {a : Int} {P P' : Prop} {s t u : sx_S}
theorem px_d2_a {L : List (Int × qx_T)} (hL : L = C ∨ L = M) {z : Int} {R : Prop} (h : R ∧ ∃ x, px_cf (px_SN b n) L a z.toNat x) (u40 : u.1 66 40 ≠ 0) : px_d2 b n C M a P u := fun _ => ⟨fun q => absurd q u40, fun q => by
  obtain ⟨_, x, hx⟩ := h
  rcases hL with rfl | rfl
  · exact (px_cf_nv hx q.2.1).elim
  · exact (px_cf_nv hx q.2.2).elim⟩
theorem px_d2_c (h : t.1 66 40 = 0 ↔ P) (h1 : px_nv (px_SN b n) C a) (h2 : px_nv (px_SN b n) M a) : px_d2 b n C M a P t := fun _ => ⟨fun q => ⟨h.mp q, h1, h2⟩, fun q => h.mpr q.1⟩
theorem px_d2_w (h : px_d2 b n C M a P t) (u40 : u.1 66 40 ≠ 0) (hp : ¬ P') : px_d2 b n C M a (P ∧ P') u := fun _ => ⟨fun q => absurd q u40, fun q => absurd q.1.2 hp⟩
theorem px_d2_o (h : px_d2 b n C M a P t) (hp : P') : px_d2 b n C M a (P ∧ P') t := fun _ => ⟨fun q => by
  obtain ⟨a1, a2, a3⟩ := (h trivial).mp q
  exact ⟨⟨a1, hp⟩, a2, a3⟩, fun q => (h trivial).mpr ⟨q.1.1, q.2.1, q.2.2⟩⟩
theorem px_d2_u (h : px_d2 b n C M a P t) (e : u.1 66 40 = t.1 66 40) : px_d2 b n C M a P u := fun _ => by
  rw [e]
  exact h trivial
/-- one more declared -/
theorem px_DL_add {p q f : Nat} {L : List (Int × qx_T)} {x : qx_T} (h : px_DL p q f m s L) (hl : t.1 66 f = s.1 66 f + 1) (tu : rf_tu s t) (hp : ∀ k : Nat, k < L.length → t.2.1 p k = s.2.1 p k ∧ t.2.1 q k = s.2.1 q k) (hp2 : t.2.1 p L.length = a) (hq2 : qx_is t x (t.2.1 q L.length)) (ha : 0 ≤ a ∧ a < m) : px_DL p q f m t (L ++ [(a, x)]) := by
  intro _
  obtain ⟨h1, h2⟩ := h trivial
  refine ⟨by rw [List.length_append, hl, ← h1]; push_cast; rfl, fun k hk => ?_⟩
  rw [List.length_append] at hk
  by_cases hk2 : k < L.length
  · obtain ⟨e, e1, e2, e3, e4⟩ := h2 k hk2
    obtain ⟨c1, c2⟩ := hp k hk2
    exact ⟨e, by rw [List.getElem?_append_left hk2]; exact e1, c1.trans e2, e3, by rw [c2]; exact qx_is_up e4 tu⟩
  · have ek : k = L.length := by
      have : [(a, x)].length = 1 := rfl
      omega
    subst ek
    exact ⟨(a, x), by rw [List.getElem?_append_right (Nat.le_refl _), Nat.sub_self]; rfl, hp2, ha, hq2⟩
theorem px_DL_up {p q f : Nat} {L : List (Int × qx_T)} (h : px_DL p q f m s L) (hl : t.1 66 f = s.1 66 f) (tu : rf_tu s t) (hp : t.2.1 p = s.2.1 p) (hq : t.2.1 q = s.2.1 q) : px_DL p q f m t L := by
  intro _
  obtain ⟨h1, h2⟩ := h trivial
  refine ⟨by rw [hl]; exact h1, fun k hk => ?_⟩
  obtain ⟨e, e1, e2, e3, e4⟩ := h2 k hk
  rw [hp, hq]
  exact ⟨e, e1, e2, e3, qx_is_up e4 tu⟩
theorem px_E_con {x : qx_T} {B : (Nat → Nat → Int) × Nat} {w n1 n2 v : Int} (h : px_E b n m C M s) (h1 : n1 = s.1 66 42) (h2 : n2 = s.1 66 42) (hw : w = s.1 66 42 + 1) (ha : 0 ≤ a ∧ a < m) (hx : qx_is s x v) : px_E b n m (C ++ [(a, x)]) M (sx_uf s.1 66 42 w, sx_ua (sx_ua s.2.1 95 n1.toNat a) 96 n2.toNat v, B) := by
  intro _
  obtain ⟨g1, g2, g3⟩ := h trivial
  have e : ∀ q, q ≠ 42 → sx_uf s.1 66 42 w 66 q = s.1 66 q := fun q hq => by
    rw [sx_uf_if]
    exact if_neg (fun c => hq c.2)
  have e42 : sx_uf s.1 66 42 w 66 42 = w := by
    rw [sx_uf_if]
    exact if_pos ⟨rfl, rfl⟩
  have a' : ∀ q, q ≠ 95 → q ≠ 96 → (sx_ua (sx_ua s.2.1 95 n1.toNat a) 96 n2.toNat v) q = s.2.1 q := fun q h1 h2 => by
    rw [sx_ua_ne h2, sx_ua_ne h1]
  have hl := (g2 trivial).1
  have tu : rf_tu s (sx_uf s.1 66 42 w, sx_ua (sx_ua s.2.1 95 n1.toNat a) 96 n2.toNat v, B) := fun j => ⟨by dsimp only; rw [e 9 (by decide)]; exact Int.le_refl _, fun _ => ⟨by dsimp only; rw [a' 72 (by decide) (by decide)], by dsimp only; rw [a' 73 (by decide) (by decide)]⟩⟩
  have c95 : (sx_ua (sx_ua s.2.1 95 n1.toNat a) 96 n2.toNat v) 95 = fun j => if j = n1.toNat then a else s.2.1 95 j := by
    rw [sx_ua_ne (by decide), sx_ua_same]
  have c96 : (sx_ua (sx_ua s.2.1 95 n1.toNat a) 96 n2.toNat v) 96 = fun j => if j = n2.toNat then v else s.2.1 96 j := by
    rw [sx_ua_same, sx_ua_ne (by decide)]
  refine ⟨fun _ => ?_, px_DL_add g2 (by dsimp only; rw [e42]; exact hw) tu (fun k hk => ?_) ?_ ?_ ha, px_DL_up g3 (e 45 (by decide)) tu (a' 97 (by decide) (by decide)) (a' 123 (by decide) (by decide))⟩
  · obtain ⟨a1, a2, a3⟩ := g1 trivial
    refine ⟨(a' 68 (by decide) (by decide)).trans a1, (e 3 (by decide)).trans a2, fun k hk => ?_⟩
    dsimp only
    rw [a' 69 (by decide) (by decide), a' 70 (by decide) (by decide), a' 71 (by decide) (by decide)]
    exact a3 k hk
  · dsimp only
    rw [c95, c96]
    dsimp only
    rw [if_neg (by omega), if_neg (by omega)]
    exact ⟨rfl, rfl⟩
  · dsimp only
    rw [c95]
    exact if_pos (by omega)
  · dsimp only
    rw [c96]
    dsimp only
    rw [if_pos (by omega)]
    exact qx_is_up hx tu
theorem px_E_met {x : qx_T} {B : (Nat → Nat → Int) × Nat} {w n1 n2 v : Int} (h : px_E b n m C M s) (h1 : n1 = s.1 66 45) (h2 : n2 = s.1 66 45) (hw : w = s.1 66 45 + 1) (ha : 0 ≤ a ∧ a < m) (hx : qx_is s x v) : px_E b n m C (M ++ [(a, x)]) (sx_uf s.1 66 45 w, sx_ua (sx_ua s.2.1 97 n1.toNat a) 123 n2.toNat v, B) := by
  intro _
  obtain ⟨g1, g2, g3⟩ := h trivial
  have e : ∀ q, q ≠ 45 → sx_uf s.1 66 45 w 66 q = s.1 66 q := fun q hq => by
    rw [sx_uf_if]
    exact if_neg (fun c => hq c.2)
  have e45 : sx_uf s.1 66 45 w 66 45 = w := by
    rw [sx_uf_if]
    exact if_pos ⟨rfl, rfl⟩
  have a' : ∀ q, q ≠ 97 → q ≠ 123 → (sx_ua (sx_ua s.2.1 97 n1.toNat a) 123 n2.toNat v) q = s.2.1 q := fun q h1 h2 => by
    rw [sx_ua_ne h2, sx_ua_ne h1]
  have hl := (g3 trivial).1
  have tu : rf_tu s (sx_uf s.1 66 45 w, sx_ua (sx_ua s.2.1 97 n1.toNat a) 123 n2.toNat v, B) := fun j => ⟨by dsimp only; rw [e 9 (by decide)]; exact Int.le_refl _, fun _ => ⟨by dsimp only; rw [a' 72 (by decide) (by decide)], by dsimp only; rw [a' 73 (by decide) (by decide)]⟩⟩
  have c95 : (sx_ua (sx_ua s.2.1 97 n1.toNat a) 123 n2.toNat v) 97 = fun j => if j = n1.toNat then a else s.2.1 97 j := by
    rw [sx_ua_ne (by decide), sx_ua_same]
  have c96 : (sx_ua (sx_ua s.2.1 97 n1.toNat a) 123 n2.toNat v) 123 = fun j => if j = n2.toNat then v else s.2.1 123 j := by
    rw [sx_ua_same, sx_ua_ne (by decide)]
  refine ⟨fun _ => ?_, px_DL_up g2 (e 42 (by decide)) tu (a' 95 (by decide) (by decide)) (a' 96 (by decide) (by decide)), px_DL_add g3 (by dsimp only; rw [e45]; exact hw) tu (fun k hk => ?_) ?_ ?_ ha⟩
  · obtain ⟨a1, a2, a3⟩ := g1 trivial
    refine ⟨(a' 68 (by decide) (by decide)).trans a1, (e 3 (by decide)).trans a2, fun k hk => ?_⟩
    dsimp only
    rw [a' 69 (by decide) (by decide), a' 70 (by decide) (by decide), a' 71 (by decide) (by decide)]
    exact a3 k hk
  · dsimp only
    rw [c95, c96]
    dsimp only
    rw [if_neg (by omega), if_neg (by omega)]
    exact ⟨rfl, rfl⟩
  · dsimp only
    rw [c95]
    exact if_pos (by omega)
  · dsimp only
    rw [c96]
    dsimp only
    rw [if_pos (by omega)]
    exact qx_is_up hx tu
end PXD
end
