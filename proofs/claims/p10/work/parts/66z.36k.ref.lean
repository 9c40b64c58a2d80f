/-! ===== the reference: declare, exactly ===== -/
theorem px_E_W {V : List (Nat × Nat)} {W : List Nat} {b : Nat → Int} {n m : Int} {C M : List (Int × qx_T)} {s t : sx_S} (hF : cx_F V s t) (hV : (cx_outb V 68 && cx_outb V 69 && cx_outb V 70 && cx_outb V 71 && cx_outb V 95 && cx_outb V 96 && cx_outb V 97 && cx_outb V 123 && cx_outb V 72 && cx_outb V 73) = true) (hf : rf_f W s t) (hW : (W.contains 3 || W.contains 9 || W.contains 42 || W.contains 45) = false) (h : px_E b n m C M s) : px_E b n m C M t := by
  simp only [Bool.and_eq_true] at hV
  simp only [Bool.or_eq_false_iff] at hW
  obtain ⟨⟨⟨⟨⟨⟨⟨⟨⟨v1, v2⟩, v3⟩, v4⟩, v5⟩, v6⟩, v7⟩, v8⟩, v9⟩, v10⟩ := hV
  obtain ⟨⟨⟨w1, w2⟩, w3⟩, w4⟩ := hW
  have tu : rf_tu s t := fun j => ⟨Int.le_of_eq (hf 9 w2).symm, fun _ => ⟨by rw [(hF.same 72 v9).2], by rw [(hF.same 73 v10).2]⟩⟩
  intro _
  obtain ⟨a, c, d⟩ := h trivial
  refine ⟨fun _ => ?_, fun _ => ?_, fun _ => ?_⟩
  · obtain ⟨a1, a2, a3⟩ := a trivial
    refine ⟨(hF.same 68 v1).2.trans a1, (hf 3 w1).trans a2, fun k hk => ?_⟩
    rw [(hF.same 69 v2).2, (hF.same 70 v3).2, (hF.same 71 v4).2]
    exact a3 k hk
  · obtain ⟨c1, c2⟩ := c trivial
    refine ⟨by rw [hf 42 w3]; exact c1, fun k hk => ?_⟩
    obtain ⟨e, d1, d2, d3, d4⟩ := c2 k hk
    rw [(hF.same 95 v5).2, (hF.same 96 v6).2]
    exact ⟨e, d1, d2, d3, qx_is_up d4 tu⟩
  · obtain ⟨c1, c2⟩ := d trivial
    refine ⟨by rw [hf 45 w4]; exact c1, fun k hk => ?_⟩
    obtain ⟨e, d1, d2, d3, d4⟩ := c2 k hk
    rw [(hF.same 97 v7).2, (hF.same 123 v8).2]
    exact ⟨e, d1, d2, d3, qx_is_up d4 tu⟩
def px_d2 (b : Nat → Int) (n : Int) (C M : List (Int × qx_T)) (a : Int) (P : Prop) (t : sx_S) : Prop := True → (t.1 66 40 = 0 ↔ (P ∧ px_nv (px_SN b n) C a ∧ px_nv (px_SN b n) M a))
section PXD
variable {b : Nat → Int} {n m : Int} {C M : List (Int × qx_T)} {a : Int} {P P' : Prop} {s t u : sx_S}
theorem px_d2_a {L : List (Int × qx_T)} (hL : L = C ∨ L = M) {z : Int} {R : Prop} (h : R ∧ ∃ x, px_cf (px_SN b n) L a z.toNat x) (u40 : u.1 66 40 ≠ 0) : px_d2 b n C M a P u := fun _ => ⟨fun q => absurd q u40, fun q => by
  obtain ⟨_, x, hx⟩ := h
  rcases hL with rfl | rfl
  · exact (px_cf_nv hx q.2.1).elim
  · exact (px_cf_nv hx q.2.2).elim⟩
theorem px_d2_c (h : t.1 66 40 = 0 ↔ P) (h1 : px_nv (px_SN b n) C a) (h2 : px_nv (px_SN b n) M a) : px_d2 b n C M a P t := fun _ => ⟨fun q => ⟨h.mp q, h1, h2⟩, fun q => h.mpr q.1⟩
theorem px_d2_w (h : px_d2 b n C M a P t) (u40 : u.1 66 40 ≠ 0) (hp : ¬ P') : px_d2 b n C M a (P ∧ P') u := fun _ => ⟨fun q => absurd q u40, fun q => absurd q.1.2 hp⟩
theorem px_d2_o (h : px_d2 b n C M a P t) (hp : P') : px_d2 b n C M a (P ∧ P') t := fun _ => ⟨fun q => by
  obtain ⟨a1, a2, a3⟩ := (h trivial).mp q
  exact ⟨⟨a1, hp⟩, a2, a3⟩, fun q => (h trivial).mpr ⟨q.1.1, q.2.1, q.2.2⟩⟩
theorem px_d2_u (h : px_d2 b n C M a P t) (e : u.1 66 40 = t.1 66 40) : px_d2 b n C M a P u := fun _ => by
  rw [e]
  exact h trivial
/-- one more declared -/
theorem px_DL_add {p q f : Nat} {L : List (Int × qx_T)} {x : qx_T} (h : px_DL p q f m s L) (hl : t.1 66 f = s.1 66 f + 1) (tu : rf_tu s t) (hp : ∀ k : Nat, k < L.length → t.2.1 p k = s.2.1 p k ∧ t.2.1 q k = s.2.1 q k) (hp2 : t.2.1 p L.length = a) (hq2 : qx_is t x (t.2.1 q L.length)) (ha : 0 ≤ a ∧ a < m) : px_DL p q f m t (L ++ [(a, x)]) := by
  intro _
  obtain ⟨h1, h2⟩ := h trivial
  refine ⟨by rw [List.length_append, hl, ← h1]; push_cast; rfl, fun k hk => ?_⟩
  rw [List.length_append] at hk
  by_cases hk2 : k < L.length
  · obtain ⟨e, e1, e2, e3, e4⟩ := h2 k hk2
    obtain ⟨c1, c2⟩ := hp k hk2
    exact ⟨e, by rw [List.getElem?_append_left hk2]; exact e1, c1.trans e2, e3, by rw [c2]; exact qx_is_up e4 tu⟩
  · have ek : k = L.length := by
      have : [(a, x)].length = 1 := rfl
      omega
    subst ek
    exact ⟨(a, x), by rw [List.getElem?_append_right (Nat.le_refl _), Nat.sub_self]; rfl, hp2, ha, hq2⟩
theorem px_DL_up {p q f : Nat} {L : List (Int × qx_T)} (h : px_DL p q f m s L) (hl : t.1 66 f = s.1 66 f) (tu : rf_tu s t) (hp : t.2.1 p = s.2.1 p) (hq : t.2.1 q = s.2.1 q) : px_DL p q f m t L := by
  intro _
  obtain ⟨h1, h2⟩ := h trivial
  refine ⟨by rw [hl]; exact h1, fun k hk => ?_⟩
  obtain ⟨e, e1, e2, e3, e4⟩ := h2 k hk
  rw [hp, hq]
  exact ⟨e, e1, e2, e3, qx_is_up e4 tu⟩
theorem px_E_con {x : qx_T} {B : (Nat → Nat → Int) × Nat} {w n1 n2 v : Int} (h : px_E b n m C M s) (h1 : n1 = s.1 66 42) (h2 : n2 = s.1 66 42) (hw : w = s.1 66 42 + 1) (ha : 0 ≤ a ∧ a < m) (hx : qx_is s x v) : px_E b n m (C ++ [(a, x)]) M (sx_uf s.1 66 42 w, sx_ua (sx_ua s.2.1 95 n1.toNat a) 96 n2.toNat v, B) := by
  intro _
  obtain ⟨g1, g2, g3⟩ := h trivial
  have e : ∀ q, q ≠ 42 → sx_uf s.1 66 42 w 66 q = s.1 66 q := fun q hq => by
    rw [sx_uf_if]
    exact if_neg (fun c => hq c.2)
  have e42 : sx_uf s.1 66 42 w 66 42 = w := by
    rw [sx_uf_if]
    exact if_pos ⟨rfl, rfl⟩
  have a' : ∀ q, q ≠ 95 → q ≠ 96 → (sx_ua (sx_ua s.2.1 95 n1.toNat a) 96 n2.toNat v) q = s.2.1 q := fun q h1 h2 => by
    rw [sx_ua_ne h2, sx_ua_ne h1]
  have hl := (g2 trivial).1
  have tu : rf_tu s (sx_uf s.1 66 42 w, sx_ua (sx_ua s.2.1 95 n1.toNat a) 96 n2.toNat v, B) := fun j => ⟨by dsimp only; rw [e 9 (by decide)]; exact Int.le_refl _, fun _ => ⟨by dsimp only; rw [a' 72 (by decide) (by decide)], by dsimp only; rw [a' 73 (by decide) (by decide)]⟩⟩
  have c95 : (sx_ua (sx_ua s.2.1 95 n1.toNat a) 96 n2.toNat v) 95 = fun j => if j = n1.toNat then a else s.2.1 95 j := by
    rw [sx_ua_ne (by decide), sx_ua_same]
  have c96 : (sx_ua (sx_ua s.2.1 95 n1.toNat a) 96 n2.toNat v) 96 = fun j => if j = n2.toNat then v else s.2.1 96 j := by
    rw [sx_ua_same, sx_ua_ne (by decide)]
  refine ⟨fun _ => ?_, px_DL_add g2 (by dsimp only; rw [e42]; exact hw) tu (fun k hk => ?_) ?_ ?_ ha, px_DL_up g3 (e 45 (by decide)) tu (a' 97 (by decide) (by decide)) (a' 123 (by decide) (by decide))⟩
  · obtain ⟨a1, a2, a3⟩ := g1 trivial
    refine ⟨(a' 68 (by decide) (by decide)).trans a1, (e 3 (by decide)).trans a2, fun k hk => ?_⟩
    dsimp only
    rw [a' 69 (by decide) (by decide), a' 70 (by decide) (by decide), a' 71 (by decide) (by decide)]
    exact a3 k hk
  · dsimp only
    rw [c95, c96]
    dsimp only
    rw [if_neg (by omega), if_neg (by omega)]
    exact ⟨rfl, rfl⟩
  · dsimp only
    rw [c95]
    exact if_pos (by omega)
  · dsimp only
    rw [c96]
    dsimp only
    rw [if_pos (by omega)]
    exact qx_is_up hx tu
theorem px_E_met {x : qx_T} {B : (Nat → Nat → Int) × Nat} {w n1 n2 v : Int} (h : px_E b n m C M s) (h1 : n1 = s.1 66 45) (h2 : n2 = s.1 66 45) (hw : w = s.1 66 45 + 1) (ha : 0 ≤ a ∧ a < m) (hx : qx_is s x v) : px_E b n m C (M ++ [(a, x)]) (sx_uf s.1 66 45 w, sx_ua (sx_ua s.2.1 97 n1.toNat a) 123 n2.toNat v, B) := by
  intro _
  obtain ⟨g1, g2, g3⟩ := h trivial
  have e : ∀ q, q ≠ 45 → sx_uf s.1 66 45 w 66 q = s.1 66 q := fun q hq => by
    rw [sx_uf_if]
    exact if_neg (fun c => hq c.2)
  have e45 : sx_uf s.1 66 45 w 66 45 = w := by
    rw [sx_uf_if]
    exact if_pos ⟨rfl, rfl⟩
  have a' : ∀ q, q ≠ 97 → q ≠ 123 → (sx_ua (sx_ua s.2.1 97 n1.toNat a) 123 n2.toNat v) q = s.2.1 q := fun q h1 h2 => by
    rw [sx_ua_ne h2, sx_ua_ne h1]
  have hl := (g3 trivial).1
  have tu : rf_tu s (sx_uf s.1 66 45 w, sx_ua (sx_ua s.2.1 97 n1.toNat a) 123 n2.toNat v, B) := fun j => ⟨by dsimp only; rw [e 9 (by decide)]; exact Int.le_refl _, fun _ => ⟨by dsimp only; rw [a' 72 (by decide) (by decide)], by dsimp only; rw [a' 73 (by decide) (by decide)]⟩⟩
  have c95 : (sx_ua (sx_ua s.2.1 97 n1.toNat a) 123 n2.toNat v) 97 = fun j => if j = n1.toNat then a else s.2.1 97 j := by
    rw [sx_ua_ne (by decide), sx_ua_same]
  have c96 : (sx_ua (sx_ua s.2.1 97 n1.toNat a) 123 n2.toNat v) 123 = fun j => if j = n2.toNat then v else s.2.1 123 j := by
    rw [sx_ua_same, sx_ua_ne (by decide)]
  refine ⟨fun _ => ?_, px_DL_up g2 (e 42 (by decide)) tu (a' 95 (by decide) (by decide)) (a' 96 (by decide) (by decide)), px_DL_add g3 (by dsimp only; rw [e45]; exact hw) tu (fun k hk => ?_) ?_ ?_ ha⟩
  · obtain ⟨a1, a2, a3⟩ := g1 trivial
    refine ⟨(a' 68 (by decide) (by decide)).trans a1, (e 3 (by decide)).trans a2, fun k hk => ?_⟩
    dsimp only
    rw [a' 69 (by decide) (by decide), a' 70 (by decide) (by decide), a' 71 (by decide) (by decide)]
    exact a3 k hk
  · dsimp only
    rw [c95, c96]
    dsimp only
    rw [if_neg (by omega), if_neg (by omega)]
    exact ⟨rfl, rfl⟩
  · dsimp only
    rw [c95]
    exact if_pos (by omega)
  · dsimp only
    rw [c96]
    dsimp only
    rw [if_pos (by omega)]
    exact qx_is_up hx tu
end PXD
