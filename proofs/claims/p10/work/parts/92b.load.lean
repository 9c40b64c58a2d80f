/-! ===== the reference: what load leaves, with the constants and the bytes ===== -/
def wr_LE (bb : Nat → Int) (n : Int) (l : List ((Int × Int × qx_T) × (px_N × px_N))) (x2 : Int) (C M : List (Int × qx_T)) (u : sx_S) : Prop := True → ∃ E : List ((List (Int × qx_T) × List (Int × qx_T)) × (px_N × px_N)), E ++ vk_eq (l.drop x2.toNat) C M = vk_eq l [] [] ∧ (E.length : Int) = u.1 66 47 ∧ (∀ (k : Nat) p, E[k]? = some p → vk_sd (px_SN bb n) p.1.1 p.1.2 p.2.1 u (u.2.1 98 k) ∧ vk_sd (px_SN bb n) p.1.1 p.1.2 p.2.2 u (u.2.1 99 k)) ∧ vk_mf (l.drop x2.toNat) M = vk_mf l [] ∧ vl_kf (l.drop x2.toNat) C = vl_kf l []
theorem wr_LE_0 {bb : Nat → Int} {n : Int} {l : List ((Int × Int × qx_T) × (px_N × px_N))} {u : sx_S} (h : u.1 66 47 = 0) : wr_LE bb n l 0 [] [] u := fun _ => ⟨[], rfl, by rw [h]; rfl, fun k p hp => by simp at hp, rfl, rfl⟩
theorem wr_LE_e {bb : Nat → Int} {n : Int} {l : List ((Int × Int × qx_T) × (px_N × px_N))} {x2 : Int} {C M : List (Int × qx_T)} {u t : sx_S} {q : ((Int × Int × qx_T) × (px_N × px_N))} (h : wr_LE bb n l x2 C M u) (h0 : 0 ≤ x2) (hq : l[x2.toNat]? = some q) (h5 : q.1.1 = 5) (hU : vk_U u t) (e47 : t.1 66 47 = u.1 66 47 + 1) (hs : (vk_sd (px_SN bb n) C M q.2.1 t (t.2.1 98 (u.1 66 47).toNat) ∧ vk_sd (px_SN bb n) C M q.2.2 t (t.2.1 99 (u.1 66 47).toNat)) ∧ ∀ i : Nat, (i : Int) < u.1 66 47 → t.2.1 98 i = u.2.1 98 i ∧ t.2.1 99 i = u.2.1 99 i) : wr_LE bb n l (x2 + 1) C M t := by
  intro _
  obtain ⟨E, a1, a2, a3, a4, a5⟩ := h trivial
  have hd := px_drop hq
  have ex : (x2 + 1).toNat = x2.toNat + 1 := by omega
  have e1 : vk_eq (q :: l.drop (x2.toNat + 1)) C M = ((C, M), q.2) :: vk_eq (l.drop (x2.toNat + 1)) C M := by
    show (if q.1.1 = 3 then _ else if q.1.1 = 4 then _ else _) = _
    rw [if_neg (by omega), if_neg (by omega)]
  have e2 : vk_mf (q :: l.drop (x2.toNat + 1)) M = vk_mf (l.drop (x2.toNat + 1)) M := if_neg (by omega)
  rw [hd, e1] at a1
  have e3 : vl_kf (q :: l.drop (x2.toNat + 1)) C = vl_kf (l.drop (x2.toNat + 1)) C := if_neg (by omega)
  rw [hd, e2] at a4
  rw [hd, e3] at a5
  refine ⟨E ++ [((C, M), q.2)], ?_, ?_, fun k p hp => ?_, ?_⟩
  · rw [ex, List.append_assoc]
    exact a1
  · rw [List.length_append, List.length_singleton, e47]
    push_cast
    omega
  · by_cases hk : k < E.length
    · rw [List.getElem?_append_left hk] at hp
      obtain ⟨b1, b2⟩ := a3 k p hp
      obtain ⟨c1, c2⟩ := hs.2 k (by omega)
      rw [c1, c2]
      exact ⟨vk_sd_up hU b1, vk_sd_up hU b2⟩
    · have hk2 : k < (E ++ [((C, M), q.2)]).length := (List.getElem?_eq_some_iff.mp hp).1
      rw [List.length_append, List.length_singleton] at hk2
      have ek : k = E.length := by omega
      rw [ek, List.getElem?_append_right (Nat.le_refl _), Nat.sub_self] at hp
      have ep : ((C, M), q.2) = p := Option.some.inj hp
      rw [← ep, show k = (u.1 66 47).toNat by omega]
      exact hs.1
  · rw [ex]
    exact ⟨a4, a5⟩
theorem wr_LE_d {bb : Nat → Int} {n : Int} {l : List ((Int × Int × qx_T) × (px_N × px_N))} {x2 : Int} {C M : List (Int × qx_T)} {u t : sx_S} {q : ((Int × Int × qx_T) × (px_N × px_N))} (h : wr_LE bb n l x2 C M u) (h0 : 0 ≤ x2) (hq : l[x2.toNat]? = some q) (hU : vk_U u t) (e47 : t.1 66 47 = u.1 66 47) (h98 : t.2.1 98 = u.2.1 98) (h99 : t.2.1 99 = u.2.1 99) : (q.1.1 = 3 → wr_LE bb n l (x2 + 1) (C ++ [(q.1.2.1, q.1.2.2)]) M t) ∧ (q.1.1 = 4 → wr_LE bb n l (x2 + 1) C (M ++ [(q.1.2.1, q.1.2.2)]) t) := by
  obtain ⟨E, a1, a2, a3, a4, a5⟩ := h trivial
  have hd := px_drop hq
  have ex : (x2 + 1).toNat = x2.toNat + 1 := by omega
  have a3' : ∀ (k : Nat) p, E[k]? = some p → vk_sd (px_SN bb n) p.1.1 p.1.2 p.2.1 t (t.2.1 98 k) ∧ vk_sd (px_SN bb n) p.1.1 p.1.2 p.2.2 t (t.2.1 99 k) := fun k p hp => by
    obtain ⟨b1, b2⟩ := a3 k p hp
    rw [h98, h99]
    exact ⟨vk_sd_up hU b1, vk_sd_up hU b2⟩
  refine ⟨fun q3 _ => ⟨E, ?_, by omega, a3', ?_⟩, fun q4 _ => ⟨E, ?_, by omega, a3', ?_⟩⟩
  · rw [hd] at a1
    rw [ex, ← a1]
    show E ++ _ = E ++ (if q.1.1 = 3 then _ else _)
    rw [if_pos q3]
  · rw [hd] at a4 a5
    rw [ex, ← a4, ← a5]
    constructor
    · show _ = (if q.1.1 = 4 then _ else _)
      rw [if_neg (by omega)]
    · show _ = (if q.1.1 = 3 then _ else _)
      rw [if_pos q3]
  · rw [hd] at a1
    rw [ex, ← a1]
    show E ++ _ = E ++ (if q.1.1 = 3 then _ else if q.1.1 = 4 then _ else _)
    rw [if_neg (by omega), if_pos q4]
  · rw [hd] at a4 a5
    rw [ex, ← a4, ← a5]
    constructor
    · show _ = (if q.1.1 = 4 then _ else _)
      rw [if_pos q4]
    · show _ = (if q.1.1 = 3 then _ else _)
      rw [if_neg (by omega)]
def wr_LJ (bb : Nat → Int) (n mt : Int) (l : List ((Int × Int × qx_T) × (px_N × px_N))) (u : sx_S) (x2 : Int) : Prop := True → (l.length : Int) = u.1 66 24 ∧ 0 ≤ u.1 66 47 ∧ (u.1 66 40 = 0 → ∃ C M, px_E bb n mt C M u ∧ (px_ck (px_SN bb n) l [] [] 0 ↔ px_ck (px_SN bb n) (l.drop x2.toNat) C M (u.1 66 47).toNat) ∧ (C.length + px_c3 3 (l.drop x2.toNat) = px_c3 3 l ∧ M.length + px_c3 4 (l.drop x2.toNat) = px_c3 4 l ∧ (u.1 66 47).toNat + px_c3 5 (l.drop x2.toNat) = px_c3 5 l) ∧ wr_LE bb n l x2 C M u) ∧ (u.1 66 40 ≠ 0 → ¬ px_ck (px_SN bb n) l [] [] 0)
theorem wr_LJ_e {bb : Nat → Int} {n mt : Int} {l : List ((Int × Int × qx_T) × (px_N × px_N))} {u t : sx_S} {x2 : Int} {q : ((Int × Int × qx_T) × (px_N × px_N))} {C M : List (Int × qx_T)} (hl : (l.length : Int) = u.1 66 24) (h47 : 0 ≤ u.1 66 47) (hE : px_E bb n mt C M u) (hi : px_ck (px_SN bb n) l [] [] 0 ↔ px_ck (px_SN bb n) (l.drop x2.toNat) C M (u.1 66 47).toNat) (h0 : 0 ≤ x2) (hq : l[x2.toNat]? = some q) (hn : (C.length + px_c3 3 (l.drop x2.toNat) = px_c3 3 l ∧ M.length + px_c3 4 (l.drop x2.toNat) = px_c3 4 l ∧ (u.1 66 47).toNat + px_c3 5 (l.drop x2.toNat) = px_c3 5 l)) (hLE : wr_LE bb n l x2 C M u) (hsd : t.1 66 40 = 0 → (vk_sd (px_SN bb n) C M q.2.1 t (t.2.1 98 (u.1 66 47).toNat) ∧ vk_sd (px_SN bb n) C M q.2.2 t (t.2.1 99 (u.1 66 47).toNat)) ∧ ∀ i : Nat, (i : Int) < u.1 66 47 → t.2.1 98 i = u.2.1 98 i ∧ t.2.1 99 i = u.2.1 99 i) (h5 : q.1.1 = 5) (hf : rf_FQ u t) (h : (t.1 66 40 = 0 → t.1 66 47 = u.1 66 47 + 1 ∧ u.1 66 47 ≤ 3 ∧ ∃ x, (px_wt (px_SN bb n) C M q.2.1).1 [] x ∧ (px_wt (px_SN bb n) C M q.2.2).1 [] x) ∧ (t.1 66 40 ≠ 0 → ¬ (u.1 66 47 ≤ 3 ∧ ∃ x, (px_wt (px_SN bb n) C M q.2.1).1 [] x ∧ (px_wt (px_SN bb n) C M q.2.2).1 [] x))) (t47 : t.1 66 40 ≠ 0 → 0 ≤ t.1 66 47) : wr_LJ bb n mt l t (x2 + 1) := by
  intro _
  have e24 := hf.2.1 24 rfl
  have hd := px_drop hq
  have ex : (x2 + 1).toNat = x2.toNat + 1 := by omega
  have step : px_ck (px_SN bb n) (l.drop x2.toNat) C M (u.1 66 47).toNat ↔ ((u.1 66 47).toNat < 4 ∧ (∃ x, (px_wt (px_SN bb n) C M q.2.1).1 [] x ∧ (px_wt (px_SN bb n) C M q.2.2).1 [] x)) ∧ px_ck (px_SN bb n) (l.drop (x2.toNat + 1)) C M ((u.1 66 47).toNat + 1) := by
    rw [hd]
    constructor
    · rintro (⟨z, _⟩ | ⟨z, _⟩ | ⟨_, z1, z2, z3⟩)
      · omega
      · omega
      · exact ⟨⟨z1, z2⟩, z3⟩
    · rintro ⟨⟨z1, z2⟩, z3⟩
      exact Or.inr (Or.inr ⟨h5, z1, z2, z3⟩)
  rw [hd] at hn
  refine ⟨by rw [e24]; exact hl, ?_, fun e => ⟨C, M, ?_, ?_, ?_, wr_LE_e hLE h0 hq h5 (vk_U_Q hf.2.2.2.1 hf.2.2.1) (h.1 e).1 (hsd e)⟩, fun e hc => ?_⟩
  · by_cases e : t.1 66 40 = 0
    · have := (h.1 e).1
      omega
    · exact t47 e
  · exact px_E_up hE hf.2.2.1 (fun p hp => (hf.1 p (fun w hw => by
      simp only [List.mem_cons, List.not_mem_nil, or_false] at hw
      rcases hw with rfl | rfl | rfl | rfl | rfl <;> (dsimp only; omega))).2) (hf.2.1 3 rfl)
  · obtain ⟨a1, a2, a3⟩ := h.1 e
    rw [hi, step, ex, show (t.1 66 47).toNat = (u.1 66 47).toNat + 1 by omega]
    exact ⟨fun z => z.2, fun z => ⟨⟨by omega, a3⟩, z⟩⟩
  · obtain ⟨a1, _⟩ := h.1 e
    rw [ex, show (t.1 66 47).toNat = (u.1 66 47).toNat + 1 by omega]
    simp only [px_c3, h5] at hn
    simp at hn
    omega
  · obtain ⟨⟨z1, z2⟩, _⟩ := step.mp (hi.mp hc)
    exact h.2 e ⟨by omega, z2⟩
theorem wr_LJ_d {bb : Nat → Int} {n mt : Int} {l : List ((Int × Int × qx_T) × (px_N × px_N))} {u t : sx_S} {x2 : Int} {q : ((Int × Int × qx_T) × (px_N × px_N))} {C M : List (Int × qx_T)} (hl : (l.length : Int) = u.1 66 24) (h47 : 0 ≤ u.1 66 47) (e24 : t.1 66 24 = u.1 66 24) (e47 : t.1 66 47 = u.1 66 47) (hi : px_ck (px_SN bb n) l [] [] 0 ↔ px_ck (px_SN bb n) (l.drop x2.toNat) C M (u.1 66 47).toNat) (h0 : 0 ≤ x2) (hq : l[x2.toNat]? = some q) (hn : (C.length + px_c3 3 (l.drop x2.toNat) = px_c3 3 l ∧ M.length + px_c3 4 (l.drop x2.toNat) = px_c3 4 l ∧ (u.1 66 47).toNat + px_c3 5 (l.drop x2.toNat) = px_c3 5 l)) (hk : (u.2.1 85 x2.toNat = 2 ∧ q.1.1 = 3) ∨ (u.2.1 85 x2.toNat = 3 ∧ q.1.1 = 4)) (hLE : wr_LE bb n l x2 C M u) (hU : vk_U u t) (h98 : t.2.1 98 = u.2.1 98) (h99 : t.2.1 99 = u.2.1 99) (hE : px_E bb n mt C M u) (h89 : u.2.1 89 x2.toNat = (qx_at q.1.2.2 : Int)) (hd2 : px_d2 bb n C M q.1.2.1 (((u.2.1 85 x2.toNat = 2 → u.1 66 42 ≤ 7) ∧ (u.2.1 85 x2.toNat ≠ 2 → u.1 66 45 ≤ 4)) ∧ u.2.1 89 x2.toNat ≤ 5) t) (hc1 : t.1 66 40 = 0 → u.2.1 85 x2.toNat = 2 → px_E bb n mt (C ++ [(q.1.2.1, q.1.2.2)]) M t) (hc2 : t.1 66 40 = 0 → u.2.1 85 x2.toNat ≠ 2 → px_E bb n mt C (M ++ [(q.1.2.1, q.1.2.2)]) t) : wr_LJ bb n mt l t (x2 + 1) := by
  intro _
  have hd := px_drop hq
  have ex : (x2 + 1).toNat = x2.toNat + 1 := by omega
  have lC := ((hE trivial).2.1 trivial).1
  have lM := ((hE trivial).2.2 trivial).1
  rw [h89] at hd2
  have d2 := hd2 trivial
  refine ⟨by rw [e24]; exact hl, by omega, fun e => ?_, fun e hc => ?_⟩
  · obtain ⟨⟨⟨a1, a2⟩, a3⟩, a4, a5⟩ := d2.mp e
    rcases hk with ⟨k1, k2⟩ | ⟨k1, k2⟩
    · refine ⟨_, M, hc1 e k1, ?_, ?_, (wr_LE_d hLE h0 hq hU e47 h98 h99).1 k2⟩
      rotate_left
      · rw [ex, e47, List.length_append, List.length_singleton]
        rw [hd] at hn
        simp only [px_c3, k2] at hn
        simp at hn
        omega
      rw [hi, hd, ex, e47]
      constructor
      · rintro (⟨_, _, _, _, _, z⟩ | ⟨z, _⟩ | ⟨z, _⟩)
        · exact z
        · omega
        · omega
      · exact fun z => Or.inl ⟨k2, by have := a1 k1; omega, a4, a5, by omega, z⟩
    · refine ⟨C, _, hc2 e (by omega), ?_, ?_, (wr_LE_d hLE h0 hq hU e47 h98 h99).2 k2⟩
      rotate_left
      · rw [ex, e47, List.length_append, List.length_singleton]
        rw [hd] at hn
        simp only [px_c3, k2] at hn
        simp at hn
        omega
      rw [hi, hd, ex, e47]
      constructor
      · rintro (⟨z, _⟩ | ⟨_, _, _, _, _, z⟩ | ⟨z, _⟩)
        · omega
        · exact z
        · omega
      · exact fun z => Or.inr (Or.inl ⟨k2, by have := a2 (by omega); omega, a4, a5, by omega, z⟩)
  · refine e (d2.mpr ?_)
    have hc2' := hi.mp hc
    rw [hd] at hc2'
    rcases hc2' with ⟨z1, z2, z3, z4, z5, _⟩ | ⟨z1, z2, z3, z4, z5, _⟩ | ⟨z, _⟩
    · exact ⟨⟨⟨fun _ => by omega, fun z => by omega⟩, by omega⟩, z3, z4⟩
    · exact ⟨⟨⟨fun z => by omega, fun _ => by omega⟩, by omega⟩, z3, z4⟩
    · omega
/-- the constants, the unknowns, the bytes of the text in memory -/
def wr_C (b : Nat → Int) (n : Int) (l : List vl_I) (s : sx_S) : Prop := True → ∃ (bb : Nat → Int) (mt : Int), (∀ k : Nat, (k : Int) < n → bb k = b k) ∧ px_E bb n mt (vl_kf l []) (vl_mf l []) s
theorem wr_C_c {b : Nat → Int} {n : Int} {l : List vl_I} {s t : sx_S} (ha : ∀ p, ((68 ≤ p ∧ p ≤ 73) ∨ (95 ≤ p ∧ p ≤ 97) ∨ p = 123) → t.2.1 p = s.2.1 p) (hf : ∀ k, k = 3 ∨ k = 9 ∨ k = 42 ∨ k = 45 → t.1 66 k = s.1 66 k) (h : wr_C b n l s) : wr_C b n l t := fun _ => by
  obtain ⟨bb, mt, h1, h2⟩ := h trivial
  refine ⟨bb, mt, h1, fun _ => ?_⟩
  obtain ⟨a, c, d⟩ := h2 trivial
  have tu : rf_tu s t := fun j => ⟨by rw [hf 9 (by decide)]; exact Int.le_refl _, fun _ => ⟨by rw [ha 72 (by decide)], by rw [ha 73 (by decide)]⟩⟩
  refine ⟨fun _ => ?_, px_DL_up c (hf 42 (by decide)) tu (ha 95 (by decide)) (ha 96 (by decide)), px_DL_up d (hf 45 (by decide)) tu (ha 97 (by decide)) (ha 123 (by decide))⟩
  obtain ⟨a1, a2, a3⟩ := a trivial
  refine ⟨(ha 68 (by decide)).trans a1, (hf 3 (by decide)).trans a2, fun k hk => ?_⟩
  rw [ha 69 (by decide), ha 70 (by decide), ha 71 (by decide)]
  exact a3 k hk
theorem wr_C_F {b : Nat → Int} {n : Int} {l : List vl_I} {V : List (Nat × Nat)} {s t : sx_S} (hF : cx_F V s t) (hV : ∀ q ∈ V, q.2 < 68 ∨ (100 ≤ q.1 ∧ q.2 < 123) ∨ 123 < q.1) (hf : ∀ k, k = 3 ∨ k = 9 ∨ k = 42 ∨ k = 45 → t.1 66 k = s.1 66 k) (h : wr_C b n l s) : wr_C b n l t := wr_C_c (fun p hp => ((hF p).1 (fun q hq => by
  have := hV q hq
  omega)).2) hf h
