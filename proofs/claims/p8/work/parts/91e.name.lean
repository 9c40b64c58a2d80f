/-! ===== the names of the constants ===== -/
theorem px_s7_2 (c : Int) : px_s7 c ≠ 2 := by
  unfold px_s7
  (repeat' split) <;> decide
theorem px_nm8 {b : Nat → Int} {n k : Int} (h : px_kd b n k = 2) : px_en b n k - k ≤ 8 := by
  unfold px_kd at h
  unfold px_en
  by_cases c1 : n ≤ k
  · rw [if_pos c1] at h
    exact absurd h (by decide)
  · rw [if_neg c1] at h ⊢
    by_cases c2 : px_le (b k.toNat)
    · rw [if_pos c2] at h ⊢
      unfold px_wk at h
      by_cases c3 : 8 < px_ru px_wdb b n k - k
      · rw [if_pos c3] at h
        exact absurd h (by decide)
      · omega
    · rw [if_neg c2] at h
      exfalso
      unfold px_sg at h
      by_cases c3 : b k.toNat = 45
      · rw [if_pos c3] at h
        by_cases c4 : k + 1 < n ∧ b (k + 1).toNat = 62
        · rw [if_pos c4] at h
          exact absurd h (by decide)
        · rw [if_neg c4] at h
          exact absurd h (by decide)
      · rw [if_neg c3] at h
        exact px_s7_2 _ h
/-- each constant is declared by a NAME -/
theorem vl_kf_K {K : Nat → Int} : ∀ {l : List vl_I} {a : Int} {C : List (Int × qx_T)}, 0 ≤ a → vl_TX K l a → (∀ e ∈ C, 0 ≤ e.1 ∧ K e.1.toNat = 2) → ∀ e ∈ vl_kf l C, 0 ≤ e.1 ∧ K e.1.toNat = 2
  | [], _, _, _, _, h => h
  | q :: l, a, C, ha, ⟨c, hi, hx⟩, h => by
    show ∀ e ∈ (if q.1.1 = 3 then vl_kf l (C ++ [q.1.2]) else vl_kf l C), 0 ≤ e.1 ∧ K e.1.toNat = 2
    have key : 0 ≤ c ∧ (q.1.1 = 3 → 0 ≤ q.1.2.1 ∧ K q.1.2.1.toNat = 2) := by
      rcases hi with ⟨k1, k2, k3, x, e, h1, k4, k5, hq⟩ | ⟨k1, t, e, u, g, h1, k2, h2, k3, k4, hq⟩
      · have t1 := px_TY_le h1
        rw [hq]
        exact ⟨by omega, fun _ => ⟨by show 0 ≤ a + 1; omega, k2⟩⟩
      · refine ⟨?_, fun z => ?_⟩
        · have t1 := px_TM_le h1
          have t2 := px_TM_le h2
          omega
        · rw [hq] at z
          exact absurd z (show ¬ (5 : Int) = 3 by decide)
    by_cases z : q.1.1 = 3
    · rw [if_pos z]
      refine vl_kf_K key.1 hx (fun e he => ?_)
      rcases List.mem_append.mp he with he | he
      · exact h e he
      · rw [List.mem_singleton.mp he]
        exact key.2 z
    · rw [if_neg z]
      exact vl_kf_K key.1 hx h
theorem px_nam_cg {b c : Nat → Int} {n : Int} (h : ∀ k : Nat, (k : Int) < n → b k = c k) (hn : 0 ≤ n) (i : Nat) : px_en b n (px_ps b n i) - px_ps b n i = px_en c n (px_ps c n i) - px_ps c n i ∧ ∀ j : Int, 0 ≤ j → j < px_en b n (px_ps b n i) - px_ps b n i → b (px_ps b n i + j).toNat = c (px_ps c n i + j).toNat := by
  have e0 := px_ps_cg h i
  have e2 : px_en b n (px_ps b n i) = px_en c n (px_ps b n i) := (px_kd_cg h (px_ps_ge i)).2
  rw [← e0, e2]
  refine ⟨rfl, fun j j0 j1 => h _ ?_⟩
  have p0 := px_ps_ge (b := b) (n := n) i
  have p1 := px_ps_le (b := b) hn i
  have p2 := px_en_le (b := c) (n := n) p1
  omega
/-- what the desk has in memory of a constant's name -/
theorem wk_nm_of {b bb : Nat → Int} {n : Int} {l : List vl_I} {C M : List (Int × qx_T)} {u : sx_S} (hn : 0 ≤ n ∧ n ≤ 240) (hb : ∀ k : Nat, (k : Int) < n → bb k = b k) (hE : dz_E bb n C M u) (hK : ∀ e ∈ C, 0 ≤ e.1 ∧ px_K b n e.1.toNat = 2) {h : Int} (h0 : 0 ≤ h) (h1 : h < (C.length : Int)) : wk_Nm u h ∧ wk_nm u h = wy_nm b n C h := by
  obtain ⟨hTN, hDL, _⟩ := hE trivial
  obtain ⟨t1, t2, tk⟩ := hTN trivial
  obtain ⟨d1, d2⟩ := hDL trivial
  obtain ⟨e, e1, e2, e3, _⟩ := d2 h.toNat (by omega)
  obtain ⟨⟨m0, m1⟩, dt, _⟩ := tk trivial
  obtain ⟨s1, s2, s3⟩ := dt e.1.toNat (by omega)
  have hKe := (hK e (List.mem_of_getElem? e1)).2
  have eK : px_K bb n = px_K b n := px_K_cg hb
  have k2 : px_kd bb n (px_ps bb n e.1.toNat) = 2 := by
    have : px_K bb n e.1.toNat = 2 := by rw [eK]; exact hKe
    exact this
  have n8 := px_nm8 k2
  have p0 := px_ps_ge (b := bb) (n := n) e.1.toNat
  have p1 := px_ps_le (b := bb) hn.1 e.1.toNat
  have p2 := px_en_le (b := bb) (n := n) p1
  have p3 := px_en_ge (b := bb) (n := n) (k := px_ps bb n e.1.toNat)
  refine ⟨fun _ => ?_, ?_⟩
  · rw [e2, s2, s3, t2]
    exact ⟨⟨h0, by omega⟩, e3, p0, ⟨by omega, n8⟩, p2, hn.2⟩
  · unfold wk_nm wy_nm
    rw [e2, s2, s3, t1, e1]
    obtain ⟨g1, g2⟩ := px_nam_cg (b := bb) (c := b) hb hn.1 e.1.toNat
    show _ = (List.range (px_en b n (px_ps b n e.1.toNat) - px_ps b n e.1.toNat).toNat).map (fun j : Nat => b (px_ps b n e.1.toNat + (j : Int)).toNat)
    rw [← g1]
    refine List.map_congr_left (fun j hj => ?_)
    have := List.mem_range.mp hj
    exact g2 (j : Int) (by omega) (by omega)
