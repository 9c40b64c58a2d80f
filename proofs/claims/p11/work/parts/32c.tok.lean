section
/-! ===== the reference's tokens, exactly: all of them; names ===== -/
/-- the reference has the first m tokens -/
def px_RT (b : Nat → Int) (n m : Int) (t : sx_S) : Prop := ∀ j : Nat, (j : Int) < m → t.2.1 69 j = px_rc (px_K b n j) ∧ t.2.1 70 j = px_ps b n j ∧ t.2.1 71 j = px_en b n (px_ps b n j) - px_ps b n j
theorem px_RT_0 {b : Nat → Int} {n : Int} {t : sx_S} : px_RT b n 0 t := fun j hj => by omega
theorem px_RT_F {V : List (Nat × Nat)} {b : Nat → Int} {n m : Int} {s t : sx_S} (hF : cx_F V s t) (h1 : cx_outb V 69 = true) (h2 : cx_outb V 70 = true) (h3 : cx_outb V 71 = true) (h : px_RT b n m s) : px_RT b n m t := by
  intro j hj
  rw [(hF.same 69 h1).2, (hF.same 70 h2).2, (hF.same 71 h3).2]
  exact h j hj
theorem px_RT_uf {b : Nat → Int} {n m : Int} {F : Nat → Nat → Int} {B : (Nat → Nat → Int) × (Nat → Nat → Int) × Nat} {p k : Nat} {v : Int} (h : px_RT b n m (F, B)) : px_RT b n m (sx_uf F p k v, B) := h
theorem px_RT_ua {b : Nat → Int} {n m : Int} {F A : Nat → Nat → Int} {B : (Nat → Nat → Int) × Nat} {p k : Nat} {v : Int} (hp : (Nat.beq p 69 || Nat.beq p 70 || Nat.beq p 71) = false) (h : px_RT b n m (F, A, B)) : px_RT b n m (F, sx_ua A p k v, B) := by
  rw [Bool.or_eq_false_iff, Bool.or_eq_false_iff] at hp
  intro j hj
  show sx_ua A p k v 69 j = _ ∧ sx_ua A p k v 70 j = _ ∧ sx_ua A p k v 71 j = _
  rw [sx_ua_ne (fun z => by rw [← z] at hp; exact absurd hp.1.1 (by decide)), sx_ua_ne (fun z => by rw [← z] at hp; exact absurd hp.1.2 (by decide)), sx_ua_ne (fun z => by rw [← z] at hp; exact absurd hp.2 (by decide))]
  exact h j hj
/-- one token more: its place is put down, then its size, then its kind -/
theorem px_RT_up {b : Nat → Int} {n x k z w : Int} {t u : sx_S} (h : px_RT b n x t) (hF : cx_F [(71, 71)] (t.1, sx_ua t.2.1 70 x.toNat k, t.2.2) u) (hg : px_g1 71 x (t.1, sx_ua t.2.1 70 x.toNat k, t.2.2) u) (hz : z = px_rc (px_kd b n k)) (he : u.2.1 71 x.toNat = px_en b n k - k) (h0 : 0 ≤ x) (hk : px_ps b n x.toNat = k) (hw : w = x + 1) : px_RT b n w (u.1, sx_ua u.2.1 69 x.toNat z, u.2.2) := by
  subst hw
  intro j hj
  have e69 : u.2.1 69 = t.2.1 69 := by
    rw [(hF.same 69 rfl).2]
    show sx_ua t.2.1 70 x.toNat k 69 = t.2.1 69
    exact sx_ua_ne (by decide)
  have e70 : ∀ j, u.2.1 70 j = if j = x.toNat then k else t.2.1 70 j := by
    intro j
    rw [(hF.same 70 rfl).2]
    show sx_ua t.2.1 70 x.toNat k 70 j = _
    rw [sx_ua_if, if_pos rfl]
  have e71 : ∀ j : Nat, j ≠ x.toNat → u.2.1 71 j = t.2.1 71 j := by
    intro j hj
    rw [hg j (by omega)]
    show sx_ua t.2.1 70 x.toNat k 71 j = _
    rw [sx_ua_ne (by decide)]
  show sx_ua u.2.1 69 x.toNat z 69 j = _ ∧ sx_ua u.2.1 69 x.toNat z 70 j = _ ∧ sx_ua u.2.1 69 x.toNat z 71 j = _
  rw [sx_ua_if, sx_ua_ne (by decide), sx_ua_ne (by decide), if_pos rfl, e70]
  by_cases c : j = x.toNat
  · subst c
    rw [if_pos rfl, if_pos rfl, he, hz, ← hk]
    exact ⟨rfl, rfl, rfl⟩
  · rw [if_neg c, if_neg c, e69, e71 j c]
    exact h j (by omega)
/-- while cutting: k the place, x tokens so far, y whether there may be more -/
def px_cs (b : Nat → Int) (n k x y : Int) : Prop := True → (y ≠ 0 → x ≤ k ∧ px_lv b n x.toNat ∧ px_ru px_blb b n k = px_ps b n x.toNat) ∧ (y = 0 → 1 ≤ x ∧ px_lv b n (x - 1).toNat ∧ (px_K b n (x - 1).toNat = 0 ∨ px_K b n (x - 1).toNat = 1))
theorem px_lv_0 {b : Nat → Int} {n : Int} : px_lv b n (0 : Int).toNat := fun j hj => absurd hj (Nat.not_lt_zero j)
theorem px_lv_up {b : Nat → Int} {n x w : Int} (h : px_lv b n x.toNat) (h0 : 0 ≤ x) (hk : px_K b n x.toNat ≠ 0 ∧ px_K b n x.toNat ≠ 1) (hw : w = x + 1) : px_lv b n w.toNat := by
  intro j hj
  rcases Nat.lt_or_ge j x.toNat with q | q
  · exact h j q
  · have : j = x.toNat := by omega
    rw [this]
    exact hk
theorem px_cs_0 {b : Nat → Int} {n : Int} : px_cs b n 0 0 1 := fun _ => ⟨fun _ => ⟨Int.le_refl _, px_lv_0, rfl⟩, fun h => absurd h (by decide)⟩
theorem px_cs_go {b : Nat → Int} {n x1 x2 k w y : Int} (h2 : x2 ≤ x1) (hl : px_lv b n x2.toNat) (hs : px_ps b n x2.toNat = x1) (h0 : 0 ≤ x2) (hk : k = px_en b n x1) (h1 : x1 < px_en b n x1) (hz : px_kd b n x1 ≠ 0 ∧ px_kd b n x1 ≠ 1) (hw : w = x2 + 1) (hy : y = 1) : px_cs b n k w y := by
  refine fun _ => ⟨fun _ => ⟨by omega, ?_, ?_⟩, fun h => by omega⟩
  · refine px_lv_up hl h0 ?_ hw
    unfold px_K
    rw [hs]
    exact hz
  · have e : w.toNat = x2.toNat + 1 := by omega
    rw [e, hk, ← hs]
    rfl
theorem px_cs_end {b : Nat → Int} {n x1 x2 k w y : Int} (hl : px_lv b n x2.toNat) (hs : px_ps b n x2.toNat = x1) (h0 : 0 ≤ x2) (hz : px_kd b n x1 = 0 ∨ px_kd b n x1 = 1) (hw : w = x2 + 1) (hy : y = 0) : px_cs b n k w y := by
  have e : (w - 1).toNat = x2.toNat := by omega
  refine fun _ => ⟨fun h => by omega, fun _ => ⟨by omega, by rw [e]; exact hl, ?_⟩⟩
  rw [e]
  unfold px_K
  rw [hs]
  exact hz
/-- all tokens: m of them, the last one the end or none -/
def px_RE (b : Nat → Int) (n m : Int) (t : sx_S) : Prop := (1 ≤ m ∧ m ≤ 241) ∧ px_RT b n m t ∧ px_lv b n (m - 1).toNat ∧ (px_K b n (m - 1).toNat = 0 ∨ px_K b n (m - 1).toNat = 1)
def px_REx (b : Nat → Int) (n : Int) (t : sx_S) : Prop := ∃ m, px_RE b n m t
theorem px_REx_mk {b : Nat → Int} {n k x y : Int} {t : sx_S} (h : px_RT b n x t) (hc : px_cs b n k x y) (hy : y = 0) (hx : x ≤ 241) : px_REx b n t := ⟨x, ⟨((hc trivial).2 hy).1, hx⟩, h, ((hc trivial).2 hy).2⟩
theorem px_rc_k (k : Int) : (k = 0 → px_rc k = 7) ∧ (k = 1 → px_rc k = 8) ∧ (px_rc k = 7 → k = 0) ∧ (px_rc k = 8 → k = 1) := by
  refine ⟨fun h => by rw [h]; rfl, fun h => by rw [h]; rfl, fun h => ?_, fun h => ?_⟩
  · unfold px_rc at h
    (repeat' split at h) <;> omega
  · unfold px_rc at h
    (repeat' split at h) <;> omega
end
section
/-! ===== the reference: names, exactly ===== -/
theorem w_rx_sameName {CALL : sx_Ca} {b : Nat → Int} {n : Int} {m : Int} {sL : Nat} {sx : Nat → Int32} {Q : Nat → sx_L → sx_S → Prop} {R : Int → sx_S → Prop} (h_rx_byteAt : ∀ (a0 : Int) (s : sx_S) (K : Int → sx_S → Prop), cx_I s → (0 ≤ a0 ∧ a0 ≤ 100000) → (s.2.1 68 = b) → (s.1 66 3 = n) → (∀ z : Int, (0 ≤ z ∧ z ≤ 255) → (a0 < n → z = b a0.toNat) → (n ≤ a0 → z = 0) → K z s) → CALL 151 [.inr (.inl 66), .inl a0] s K) {s : sx_S} {a0 a1 : Int} (hI : cx_I s) (p0 : (0 ≤ a0 ∧ a0 ≤ 241)) (p1 : (0 ≤ a1 ∧ a1 ≤ 241)) (p2 : (s.2.1 68 = b)) (p3 : (s.1 66 3 = n)) (p4 : (a0 < m ∧ a1 < m)) (p5 : (px_RT b n m s)) (hK : ∀ z : Int, (z = 0 ∨ z = 1) → (z ≠ 0 → px_sn b n a0.toNat a1.toNat) → (z = 0 → ¬ px_sn b n a0.toNat a1.toNat) → R z s) (hQ24 : ∀ (x1 x2 x3 x4 : Int) (_ : True), (0 ≤ x1 ∧ x1 ≤ 241) → (0 ≤ x2 ∧ x2 ≤ 241) → (0 ≤ x3 ∧ x3 ≤ 1) → (0 ≤ x4 ∧ x4 ≤ 240) → (a0 = x1) → (a1 = x2) → (x3 ≠ 0 → px_sp b n a0.toNat a1.toNat x4) → (x3 = 0 → ¬ px_sn b n a0.toNat a1.toNat) → Q 24 [(0, .inr (.inl 66)), (1, .inl x1), (2, .inl x2), (3, .inl x3), (4, .inl x4)] s) : sx_wp true sL sx eX12_sameName CALL [(24, [0, 1, 2, 3, 4])] Q R 400 0 (sx_argsF 0 [.inr (.inl 66), .inl a0, .inl a1]) [] s := by
  obtain ⟨zzr1, zzr2, zzr3⟩ := p5 a0.toNat (by omega)
  obtain ⟨zzr4, zzr5, zzr6⟩ := p5 a1.toNat (by omega)
  have hn := hI.fld 66 3 (by decide) rfl
  have zzg1 := px_en_le (b := b) (px_ps_le (b := b) (n := n) (by omega) a0.toNat)
  have zzg2 := px_en_le (b := b) (px_ps_le (b := b) (n := n) (by omega) a1.toNat)
  have zzg3 := px_ps_ge (b := b) (n := n) a0.toNat
  have zzg4 := px_ps_ge (b := b) (n := n) a1.toNat
  have zzg5 := px_en_ge (b := b) (n := n) (k := px_ps b n a0.toNat)
  have zzg6 := px_en_ge (b := b) (n := n) (k := px_ps b n a1.toNat)
  repeat' (first | (with_reducible (rintro _ rfl)) | (with_reducible intro _) | (refine And.intro ?_ ?_) | (refine hK _ ?_ ?_ ?_) | (refine h_rx_byteAt _ _ _ ?_ ?_ ?_ ?_ ?_) | (refine hQ24 _ _ _ _ trivial ?_ ?_ ?_ ?_ ?_ ?_ ?_ ?_))
  all_goals (try dsimp only)
  repeat' (first | (with_reducible assumption) | ((with_reducible (change cx_I (sx_uf _ _ _ _, _))); refine cx_I_uf rfl rfl ?_ ?_ ?_) | ((with_reducible (change cx_I (_, sx_ua _ _ _ _, _))); refine cx_I_ua rfl rfl ?_ ?_ ?_) | ((with_reducible (change cx_I (_, sx_ua _ 16 _ _, _))); refine cx_I_ari ?_ ?_ ?_) | ((with_reducible (change cx_I (sx_uf _ 11 6 _, _))); refine cx_I_ufA rfl ?_ ?_ ?_ ?_) | (with_reducible exact cx_F_refl _ _) | ((with_reducible (change cx_F _ _ (sx_uf _ _ _ _, _))); refine cx_F_uf rfl ?_) | ((with_reducible (change cx_F _ _ (_, sx_ua _ _ _ _, _))); refine cx_F_ua rfl ?_) | ((with_reducible (change cx_I (_, sx_cpy _ _ _ _ _ _, _))); refine cx_I_cpy rfl rfl rfl (by decide) ?_) | ((with_reducible (change cx_F _ _ (_, sx_cpy _ _ _ _ _ _, _))); refine cx_F_cpy rfl ?_) | ((with_reducible (change cx_F _ _ _)); refine cx_F_step (by assumption) rfl ?_) | ((with_reducible (change rf_f _ _ (sx_uf _ 66 _ _, _))); refine rf_f_uf rfl ?_) | ((with_reducible (change rf_f _ _ _)); exact (fun _ _ => rfl)) | ((with_reducible (change rf_f _ _ (_, sx_ua _ _ _ _, _))); refine rf_f_ua ?_) | ((with_reducible (change rf_f _ _ _)); assumption) | ((with_reducible (change rf_f _ _ _)); refine rf_f_step (by assumption) rfl ?_) | ((with_reducible (change rf_f _ _ _)); refine rf_f_F (by assumption) rfl ?_) | ((with_reducible (change px_g1 _ _ _ (_, sx_ua _ _ _ _, _))); refine px_g1_ua rfl (by omega) ?_) | ((with_reducible (change px_g1 _ _ _ _)); exact px_g1_refl _ _ _) | ((with_reducible (change px_g1 _ _ _ _)); assumption) | ((with_reducible (change sx_ua _ _ _ _ _ = _)); refine px_a_ua rfl ?_) | ((with_reducible (change px_RT _ _ _ (sx_uf _ _ _ _, _))); refine px_RT_uf ?_) | ((with_reducible (change px_RT _ _ _ (_, sx_ua _ 69 _ _, _))); refine px_RT_up (by assumption) (by assumption) (by assumption) (by assumption) (by assumption) (by omega) (px_bl_st (by assumption) (by omega)) (by omega)) | ((with_reducible (change px_RT _ _ _ (_, sx_ua _ _ _ _, _))); refine px_RT_ua rfl ?_) | ((with_reducible (change px_RT _ _ 0 _)); exact px_RT_0) | ((with_reducible (change px_RT _ _ _ _)); assumption) | ((with_reducible (change px_RT _ _ _ _)); refine px_RT_F (by assumption) rfl rfl rfl ?_) | ((with_reducible (change px_REx _ _ _)); exact px_REx_mk (by assumption) (by assumption) (by omega) (by omega)) | ((with_reducible (change (_ : sx_S).1 _ _ = _)); refine px_f_F (by assumption) rfl ?_) | ((with_reducible (change (_ : sx_S).2.1 _ = _)); refine px_a_F (by assumption) rfl ?_) | ((with_reducible (change sx_uf _ _ _ _ _ _ = _)); refine px_f_uf rfl ?_) | fail)
  all_goals (try dsimp only at *)
  all_goals (first | ((with_reducible (change px_sn _ _ _ _)); exact px_sp_end (i6 (by omega)) (by omega)) | ((with_reducible (change px_sp _ _ _ _ _)); first | exact px_sp_0 (by omega) (by omega) | (rw [zzy]; exact px_sp_go (i6 (by omega)) (by omega))) | ((with_reducible (change ¬ px_sn _ _ _ _)); first | exact i7 (by omega) | exact px_sn_nl (by omega) | exact px_sn_no (x := x4) (by omega) (by omega) (by omega)) | trivial | assumption | rfl | omega | (dsimp only at *; omega) | (simp only [sx_uf_if, sx_ua_if, sx_w_t, true_and, and_true, and_self, and_false, false_and, if_true, if_false, reduceIte] at *; omega) | (subst_vars; omega))

theorem w_rx_sameName_24 {CALL : sx_Ca} {b : Nat → Int} {n : Int} {m : Int} {sL : Nat} {sx : Nat → Int32} {Q : Nat → sx_L → sx_S → Prop} {R : Int → sx_S → Prop} (h_rx_byteAt : ∀ (a0 : Int) (s : sx_S) (K : Int → sx_S → Prop), cx_I s → (0 ≤ a0 ∧ a0 ≤ 100000) → (s.2.1 68 = b) → (s.1 66 3 = n) → (∀ z : Int, (0 ≤ z ∧ z ≤ 255) → (a0 < n → z = b a0.toNat) → (n ≤ a0 → z = 0) → K z s) → CALL 151 [.inr (.inl 66), .inl a0] s K) {s : sx_S} {a0 a1 : Int} (hI : cx_I s) (p0 : (0 ≤ a0 ∧ a0 ≤ 241)) (p1 : (0 ≤ a1 ∧ a1 ≤ 241)) (p2 : (s.2.1 68 = b)) (p3 : (s.1 66 3 = n)) (p4 : (a0 < m ∧ a1 < m)) (p5 : (px_RT b n m s)) (hK : ∀ z : Int, (z = 0 ∨ z = 1) → (z ≠ 0 → px_sn b n a0.toNat a1.toNat) → (z = 0 → ¬ px_sn b n a0.toNat a1.toNat) → R z s) {x1 x2 x3 x4 : Int} {mm : Nat} (hm : mm = 17179869184 + (2147483647 - x4).toNat) (i0 : (0 ≤ x1 ∧ x1 ≤ 241)) (i1 : (0 ≤ x2 ∧ x2 ≤ 241)) (i2 : (0 ≤ x3 ∧ x3 ≤ 1)) (i3 : (0 ≤ x4 ∧ x4 ≤ 240)) (i4 : (a0 = x1)) (i5 : (a1 = x2)) (i6 : (x3 ≠ 0 → px_sp b n a0.toNat a1.toNat x4)) (i7 : (x3 = 0 → ¬ px_sn b n a0.toNat a1.toNat)) (hQ24 : ∀ (x1 x2 x3 x4 : Int) (_ : True), (0 ≤ x1 ∧ x1 ≤ 241) → (0 ≤ x2 ∧ x2 ≤ 241) → (0 ≤ x3 ∧ x3 ≤ 1) → (0 ≤ x4 ∧ x4 ≤ 240) → (a0 = x1) → (a1 = x2) → (x3 ≠ 0 → px_sp b n a0.toNat a1.toNat x4) → (x3 = 0 → ¬ px_sn b n a0.toNat a1.toNat) → (17179869184 + (2147483647 - x4).toNat < mm) → Q 24 [(0, .inr (.inl 66)), (1, .inl x1), (2, .inl x2), (3, .inl x3), (4, .inl x4)] s) : sx_wp true sL sx eX12_sameName CALL [(24, [0, 1, 2, 3, 4])] Q R 400 24 [(0, .inr (.inl 66)), (1, .inl x1), (2, .inl x2), (3, .inl x3), (4, .inl x4)] [] s := by
  obtain ⟨zzr1, zzr2, zzr3⟩ := p5 a0.toNat (by omega)
  obtain ⟨zzr4, zzr5, zzr6⟩ := p5 a1.toNat (by omega)
  have hn := hI.fld 66 3 (by decide) rfl
  have zzg1 := px_en_le (b := b) (px_ps_le (b := b) (n := n) (by omega) a0.toNat)
  have zzg2 := px_en_le (b := b) (px_ps_le (b := b) (n := n) (by omega) a1.toNat)
  have zzg3 := px_ps_ge (b := b) (n := n) a0.toNat
  have zzg4 := px_ps_ge (b := b) (n := n) a1.toNat
  have zzg5 := px_en_ge (b := b) (n := n) (k := px_ps b n a0.toNat)
  have zzg6 := px_en_ge (b := b) (n := n) (k := px_ps b n a1.toNat)
  subst i4 i5
  have zzl : x3 ≠ 0 → px_en b n (px_ps b n a0.toNat) - px_ps b n a0.toNat = px_en b n (px_ps b n a1.toNat) - px_ps b n a1.toNat := fun h => (i6 h trivial).1
  have zzy : sx_w true (x4 + 1) = x4 + 1 := px_wid (by omega) (by omega)
  have zzwA : sx_w true (s.2.1 70 a0.toNat + x4) = px_ps b n a0.toNat + x4 := by rw [zzr2]; exact px_wid (by omega) (by omega)
  have zzvA : b (sx_w true (s.2.1 70 a0.toNat + x4)).toNat = b (px_ps b n a0.toNat + x4).toNat := by rw [zzwA]
  have zzwB : sx_w true (s.2.1 70 a1.toNat + x4) = px_ps b n a1.toNat + x4 := by rw [zzr5]; exact px_wid (by omega) (by omega)
  have zzvB : b (sx_w true (s.2.1 70 a1.toNat + x4)).toNat = b (px_ps b n a1.toNat + x4).toNat := by rw [zzwB]
  repeat' (first | (with_reducible (rintro _ rfl)) | (with_reducible intro _) | (refine And.intro ?_ ?_) | (refine hK _ ?_ ?_ ?_) | (refine h_rx_byteAt _ _ _ ?_ ?_ ?_ ?_ ?_) | (refine hQ24 _ _ _ _ trivial ?_ ?_ ?_ ?_ ?_ ?_ ?_ ?_ ?_))
  all_goals (try dsimp only)
  repeat' (first | (with_reducible assumption) | ((with_reducible (change cx_I (sx_uf _ _ _ _, _))); refine cx_I_uf rfl rfl ?_ ?_ ?_) | ((with_reducible (change cx_I (_, sx_ua _ _ _ _, _))); refine cx_I_ua rfl rfl ?_ ?_ ?_) | ((with_reducible (change cx_I (_, sx_ua _ 16 _ _, _))); refine cx_I_ari ?_ ?_ ?_) | ((with_reducible (change cx_I (sx_uf _ 11 6 _, _))); refine cx_I_ufA rfl ?_ ?_ ?_ ?_) | (with_reducible exact cx_F_refl _ _) | ((with_reducible (change cx_F _ _ (sx_uf _ _ _ _, _))); refine cx_F_uf rfl ?_) | ((with_reducible (change cx_F _ _ (_, sx_ua _ _ _ _, _))); refine cx_F_ua rfl ?_) | ((with_reducible (change cx_I (_, sx_cpy _ _ _ _ _ _, _))); refine cx_I_cpy rfl rfl rfl (by decide) ?_) | ((with_reducible (change cx_F _ _ (_, sx_cpy _ _ _ _ _ _, _))); refine cx_F_cpy rfl ?_) | ((with_reducible (change cx_F _ _ _)); refine cx_F_step (by assumption) rfl ?_) | ((with_reducible (change rf_f _ _ (sx_uf _ 66 _ _, _))); refine rf_f_uf rfl ?_) | ((with_reducible (change rf_f _ _ _)); exact (fun _ _ => rfl)) | ((with_reducible (change rf_f _ _ (_, sx_ua _ _ _ _, _))); refine rf_f_ua ?_) | ((with_reducible (change rf_f _ _ _)); assumption) | ((with_reducible (change rf_f _ _ _)); refine rf_f_step (by assumption) rfl ?_) | ((with_reducible (change rf_f _ _ _)); refine rf_f_F (by assumption) rfl ?_) | ((with_reducible (change px_g1 _ _ _ (_, sx_ua _ _ _ _, _))); refine px_g1_ua rfl (by omega) ?_) | ((with_reducible (change px_g1 _ _ _ _)); exact px_g1_refl _ _ _) | ((with_reducible (change px_g1 _ _ _ _)); assumption) | ((with_reducible (change sx_ua _ _ _ _ _ = _)); refine px_a_ua rfl ?_) | ((with_reducible (change px_RT _ _ _ (sx_uf _ _ _ _, _))); refine px_RT_uf ?_) | ((with_reducible (change px_RT _ _ _ (_, sx_ua _ 69 _ _, _))); refine px_RT_up (by assumption) (by assumption) (by assumption) (by assumption) (by assumption) (by omega) (px_bl_st (by assumption) (by omega)) (by omega)) | ((with_reducible (change px_RT _ _ _ (_, sx_ua _ _ _ _, _))); refine px_RT_ua rfl ?_) | ((with_reducible (change px_RT _ _ 0 _)); exact px_RT_0) | ((with_reducible (change px_RT _ _ _ _)); assumption) | ((with_reducible (change px_RT _ _ _ _)); refine px_RT_F (by assumption) rfl rfl rfl ?_) | ((with_reducible (change px_REx _ _ _)); exact px_REx_mk (by assumption) (by assumption) (by omega) (by omega)) | ((with_reducible (change (_ : sx_S).1 _ _ = _)); refine px_f_F (by assumption) rfl ?_) | ((with_reducible (change (_ : sx_S).2.1 _ = _)); refine px_a_F (by assumption) rfl ?_) | ((with_reducible (change sx_uf _ _ _ _ _ _ = _)); refine px_f_uf rfl ?_) | fail)
  all_goals (try dsimp only at *)
  all_goals (first | ((with_reducible (change px_sn _ _ _ _)); exact px_sp_end (i6 (by omega)) (by omega)) | ((with_reducible (change px_sp _ _ _ _ _)); first | exact px_sp_0 (by omega) (by omega) | (rw [zzy]; exact px_sp_go (i6 (by omega)) (by omega))) | ((with_reducible (change ¬ px_sn _ _ _ _)); first | exact i7 (by omega) | exact px_sn_nl (by omega) | exact px_sn_no (x := x4) (by omega) (by omega) (by omega)) | trivial | assumption | rfl | omega | (dsimp only at *; omega) | (simp only [sx_uf_if, sx_ua_if, sx_w_t, true_and, and_true, and_self, and_false, false_and, if_true, if_false, reduceIte] at *; omega) | (subst_vars; omega))

theorem c_rx_sameName {sL : Nat} {sx : Nat → Int32} (hsL : sL ≤ 3072) (d : Nat) (hd : 3 ≤ d) (b : Nat → Int) (n : Int) (m : Int) : ∀ (a0 a1 : Int) (s : sx_S) (K : Int → sx_S → Prop), cx_I s → (0 ≤ a0 ∧ a0 ≤ 241) → (0 ≤ a1 ∧ a1 ≤ 241) → (s.2.1 68 = b) → (s.1 66 3 = n) → (a0 < m ∧ a1 < m) → (px_RT b n m s) → (∀ z : Int, (z = 0 ∨ z = 1) → (z ≠ 0 → px_sn b n a0.toNat a1.toNat) → (z = 0 → ¬ px_sn b n a0.toNat a1.toNat) → K z s) → sx_C sL sx d 157 [.inr (.inl 66), .inl a0, .inl a1] s K := by
  intro a0 a1 s K hI p0 p1 p2 p3 p4 p5 hK
  obtain ⟨d, rfl⟩ : ∃ e, d = e + 2 := ⟨d - 2, by omega⟩
  refine sx_methL (wr := true) (n := 400) (n' := 400) (stop := [(24, [0, 1, 2, 3, 4])]) (fun nn pc ls u => (pc = 24 ∧ ∃ (x1 x2 x3 x4 : Int), ls = [(0, .inr (.inl 66)), (1, .inl x1), (2, .inl x2), (3, .inl x3), (4, .inl x4)] ∧ u = s ∧ (0 ≤ x1 ∧ x1 ≤ 241) ∧ (0 ≤ x2 ∧ x2 ≤ 241) ∧ (0 ≤ x3 ∧ x3 ≤ 1) ∧ (0 ≤ x4 ∧ x4 ≤ 240) ∧ (a0 = x1) ∧ (a1 = x2) ∧ (x3 ≠ 0 → px_sp b n a0.toNat a1.toNat x4) ∧ (x3 = 0 → ¬ px_sn b n a0.toNat a1.toNat) ∧ nn = 17179869184 + (2147483647 - x4).toNat)) hsL (e := eX12_sameName) rfl ?_ ?_
  · exact w_rx_sameName (c_rx_byteAt hsL (d + 1) (by omega) b n) hI p0 p1 p2 p3 p4 p5 hK (fun x1 x2 x3 x4 _ i0 i1 i2 i3 i4 i5 i6 i7 => ⟨_, ⟨rfl, x1, x2, x3, x4, rfl, rfl, i0, i1, i2, i3, i4, i5, i6, i7, rfl⟩⟩)
  · rintro nn pc ls u (⟨rfl, x1, x2, x3, x4, rfl, rfl, i0, i1, i2, i3, i4, i5, i6, i7, rfl⟩)
    · exact w_rx_sameName_24 (c_rx_byteAt hsL (d + 1) (by omega) b n) hI p0 p1 p2 p3 p4 p5 hK rfl i0 i1 i2 i3 i4 i5 i6 i7 (fun x1 x2 x3 x4 _ i0 i1 i2 i3 i4 i5 i6 i7 hm => ⟨_, hm, ⟨rfl, x1, x2, x3, x4, rfl, rfl, i0, i1, i2, i3, i4, i5, i6, i7, rfl⟩⟩)
end
