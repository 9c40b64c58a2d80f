/-! ===== the reference: number, papers, size, letter, side, sideLetter ===== -/
def rf_N1 (s u : sx_S) (m : Int) : Prop := (cx_I u ∧ cx_F [(66, 66), (118, 119)] s u ∧ rf_f [79, 83] s u) ∧ (u.1 66 79 = 0 ∧ u.1 66 83 = 0) ∧ ∀ j : Nat, (j : Int) < m → u.2.1 118 j = -1
/-- what numbering leaves, k unknowns being written -/
def rf_NU (s t : sx_S) (k : Int) : Prop := (cx_I t ∧ rf_EX (s.1 66 71) (s.1 66 58) s t ∧ rf_NC s t ∧ rf_OD t) ∧ (cx_F [(66, 66), (100, 107), (115, 122)] s t ∧ rf_f [50, 56, 58, 71, 79, 83, 86, 89] s t) ∧ (s.1 66 50 ≤ t.1 66 50 ∧ t.1 66 50 ≤ s.1 66 50 + k) ∧ (s.1 66 56 ≤ t.1 66 56 ∧ t.1 66 56 ≤ s.1 66 56 + 4 * k) ∧ (s.1 66 58 ≤ t.1 66 58 ∧ t.1 66 58 ≤ s.1 66 58 + 1260 * k) ∧ s.1 66 71 ≤ t.1 66 71 ∧ t.1 66 71 ≤ s.1 66 71 + 1260 * k
theorem rf_NU_WW {nb ib k : Int} {s t : sx_S} {g : rf_Gh} (hM : rf_MI nb ib s g) (hnb : nb ≤ s.1 66 71) (hib : ib ≤ s.1 66 58) (hph : rf_ph s g ≤ 1150) (h70 : 0 ≤ s.1 66 70 ∧ s.1 66 70 ≤ 100) (h61 : s.1 66 61 ≤ 2900) (h9 : 2 ≤ s.1 66 9 ∧ s.1 66 9 ≤ 6000) (hk : 0 ≤ k ∧ k ≤ 5) (h50 : s.1 66 50 ≤ 59930) (h56 : s.1 66 56 ≤ 119800) (h : rf_NU s t k) : rf_WW true nb ib t g := by
  obtain ⟨⟨a1, a2, a3, a4⟩, ⟨b1, b2⟩, c1, c2, c3, c4, c5⟩ := h
  have e70 := b2 70 rfl
  have e61 := b2 61 rfl
  have e9 := b2 9 rfl
  exact ⟨⟨a1, rf_NC_MI (rf_EX_le a2 hnb hib) a3 (Int.le_refl _) (Int.le_refl _) hM, by omega, by omega, by rw [rf_NC_ph a2 a3]; exact hph⟩, by omega, by omega, by omega, ⟨by show t.1 66 50 ≤ 59950; omega, by omega⟩, a4⟩
theorem rf_NU_s {s t u : sx_S} {k : Int} (hk : 0 ≤ k) (h : rf_NU s t k) (w : rf_WU t u) : rf_NU s u (k + 1) := by
  obtain ⟨⟨a1, a2, a3, a4⟩, ⟨b1, b2⟩, c1, c2, c3, c4, c5⟩ := h
  obtain ⟨⟨x1, x2, x3, x4⟩, ⟨y1, y2⟩, z1, z2, z3, z4, z5⟩ := w
  exact ⟨⟨x1, rf_EX_trans x2 a2 c4 c3.1, ⟨x3.1.trans a3.1, fun j hj => (x3.2 j (by rw [a3.1]; exact hj)).trans (a3.2 j hj)⟩, x4⟩, ⟨cx_F_step y1 rfl b1, rf_f_step y2 rfl b2⟩, by omega, by omega, by omega, by omega, by omega⟩
theorem rf_N1_OD {s u : sx_S} {m : Int} (h : rf_N1 s u m) (hm : s.1 66 61 ≤ m) : rf_OD u := by
  obtain ⟨⟨a1, a2, a3⟩, ⟨b1, b2⟩, c⟩ := h
  have e61 := a3 61 rfl
  refine ⟨⟨by omega, by omega, ?_⟩, fun j hj hne => absurd (c j (by omega)) hne⟩
  rw [b1, b2]
  omega
theorem rf_N1_NU {s u : sx_S} {m : Int} (h : rf_N1 s u m) (hm : s.1 66 61 ≤ m) : rf_NU s (sx_uf (sx_uf u.1 66 86 4001) 66 89 1, u.2) 0 := by
  have hO := rf_N1_OD h hm
  obtain ⟨⟨a1, a2, a3⟩, ⟨b1, b2⟩, c⟩ := h
  have hI1 : cx_I (sx_uf u.1 66 86 4001, u.2) := cx_I_uf rfl rfl a1 (by decide) (by decide)
  have hI2 : cx_I (sx_uf (sx_uf u.1 66 86 4001) 66 89 1, u.2) := cx_I_uf rfl rfl hI1 (by decide) (by decide)
  have hF0 : cx_F [(66, 66), (100, 107), (115, 122)] s u := cx_F_step a2 rfl (cx_F_refl _ _)
  have hF1 : cx_F [(66, 66), (100, 107), (115, 122)] s (sx_uf u.1 66 86 4001, u.2) := cx_F_uf rfl hF0
  have hF2 : cx_F [(66, 66), (100, 107), (115, 122)] s (sx_uf (sx_uf u.1 66 86 4001) 66 89 1, u.2) := cx_F_uf rfl hF1
  have hf0 : rf_f [50, 56, 58, 71, 79, 83, 86, 89] s u := rf_f_step a3 rfl (rf_f_refl _ _)
  have hf1 : rf_f [50, 56, 58, 71, 79, 83, 86, 89] s (sx_uf u.1 66 86 4001, u.2) := rf_f_uf rfl hf0
  have hf2 : rf_f [50, 56, 58, 71, 79, 83, 86, 89] s (sx_uf (sx_uf u.1 66 86 4001) 66 89 1, u.2) := rf_f_uf rfl hf1
  have ef : ∀ q, q ≠ 86 → q ≠ 89 → sx_uf (sx_uf u.1 66 86 4001) 66 89 1 66 q = u.1 66 q := fun q h1 h2 => by
    rw [sx_uf_if, if_neg (fun c => h2 c.2), sx_uf_if, if_neg (fun c => h1 c.2)]
  have e9 := a3 9 rfl
  have e42 := a3 42 rfl
  have e50 := a3 50 rfl
  have e56 := a3 56 rfl
  have e58 := a3 58 rfl
  have e61 := a3 61 rfl
  have e64 := a3 64 rfl
  have e70 := a3 70 rfl
  have e71 := a3 71 rfl
  have n50 := ef 50 (by decide) (by decide)
  have n56 := ef 56 (by decide) (by decide)
  have n58 := ef 58 (by decide) (by decide)
  have n61 := ef 61 (by decide) (by decide)
  have n64 := ef 64 (by decide) (by decide)
  have n70 := ef 70 (by decide) (by decide)
  have n71 := ef 71 (by decide) (by decide)
  have n83 := ef 83 (by decide) (by decide)
  have n79 := ef 79 (by decide) (by decide)
  refine ⟨⟨hI2, ⟨⟨⟨?_, (a2.same 72 rfl).2, (a2.same 73 rfl).2, (a2.same 96 rfl).2, ?_⟩, ?_, ?_, ?_, ?_, ?_⟩, fun j => ⟨fun _ => ⟨?_, ?_, ?_, ?_, ?_⟩, fun _ => ?_, fun _ => ?_, fun _ => ⟨?_, ?_, fun _ => ⟨?_, ?_, ?_, ?_⟩⟩, fun _ => ?_, fun _ => ⟨?_, ?_, ?_⟩⟩⟩, ⟨?_, fun j _ => ?_⟩, ?_⟩, ⟨hF2, hf2⟩, ?_, ?_, ?_, ?_, ?_⟩
  · exact (ef 9 (by decide) (by decide)).trans e9
  · exact (ef 42 (by decide) (by decide)).trans e42
  · dsimp only
    omega
  · dsimp only
    omega
  · dsimp only
    omega
  · dsimp only
    omega
  · dsimp only
    omega
  · show u.2.1 100 j = _
    rw [(a2.same 100 rfl).2]
  · show u.2.1 101 j = _
    rw [(a2.same 101 rfl).2]
  · show u.2.1 102 j = _
    rw [(a2.same 102 rfl).2]
  · show u.2.1 103 j = _
    rw [(a2.same 103 rfl).2]
  · show u.2.1 104 j = _
    rw [(a2.same 104 rfl).2]
  · show u.2.1 105 j = _
    rw [(a2.same 105 rfl).2]
  · show u.2.1 106 j = _
    rw [(a2.same 106 rfl).2]
  · show u.2.1 108 j = _
    rw [(a2.same 108 rfl).2]
  · show u.2.1 109 j = _
    rw [(a2.same 109 rfl).2]
  · show u.2.1 111 j = _
    rw [(a2.same 111 rfl).2]
  · show u.2.1 112 j = _
    rw [(a2.same 112 rfl).2]
  · show u.2.1 113 j = _
    rw [(a2.same 113 rfl).2]
  · show u.2.1 114 j = _
    rw [(a2.same 114 rfl).2]
  · show u.2.1 110 j = _
    rw [(a2.same 110 rfl).2]
  · show u.2.1 115 j = _
    rw [(a2.same 115 rfl).2]
  · show u.2.1 116 j = _
    rw [(a2.same 116 rfl).2]
  · show u.2.1 117 j = _
    rw [(a2.same 117 rfl).2]
  · exact n61.trans e61
  · show u.2.1 111 j = _
    rw [(a2.same 111 rfl).2]
  · exact rf_OD_same hO n61 n83 n79 (fun p _ => rfl)
  · dsimp only
    omega
  · dsimp only
    omega
  · dsimp only
    omega
  · dsimp only
    omega
  · dsimp only
    omega
/-- a node that stands alone, nothing free in it -/
def rf_RT (s : sx_S) (g : rf_Gh) (i : Int) : Prop := ∃ (A : rf_N) (x : rf_T), rf_CL s g (fun _ _ => False) A .leaf x [] (1150 + (rf_wh A).1) i (-1) ∧ ∀ v, ¬ (rf_fo (rf_Wd s g.2.2) A).1 v
/-- what papers leaves -/
def rf_PP (s t : sx_S) : Prop := (cx_I t ∧ rf_EX (s.1 66 71) (s.1 66 58) s t ∧ rf_NC s t ∧ rf_OD t) ∧ cx_F [(66, 66), (100, 107), (115, 122)] s t ∧ rf_f [79, 83, 86] s t
theorem rf_PP_0 {s t : sx_S} {a b c e : Int} (hI : cx_I t) (hE : rf_EX (s.1 66 71) (s.1 66 58) s t) (hN : rf_NC s t) (hO : rf_OD t) (hF : cx_F [(66, 66), (100, 107), (115, 122)] s t) (hf : rf_f [50, 56, 58, 71, 79, 83, 86] s t) (pa : 0 ≤ a ∧ a ≤ 60000) (pb : 0 ≤ b ∧ b ≤ 120000) (pc : 0 ≤ c ∧ c ≤ 400000) (pe : 0 ≤ e ∧ e ≤ 400000) (ha : a = s.1 66 50) (hb : b = s.1 66 56) (hc : c = s.1 66 58) (he : e = s.1 66 71) : rf_PP s (sx_uf (sx_uf (sx_uf (sx_uf t.1 66 50 a) 66 56 b) 66 58 c) 66 71 e, t.2) := by
  have i1 : cx_I (sx_uf t.1 66 50 a, t.2) := cx_I_uf rfl rfl hI pa.1 pa.2
  have i2 : cx_I (sx_uf (sx_uf t.1 66 50 a) 66 56 b, t.2) := cx_I_uf rfl rfl i1 pb.1 pb.2
  have i3 : cx_I (sx_uf (sx_uf (sx_uf t.1 66 50 a) 66 56 b) 66 58 c, t.2) := cx_I_uf rfl rfl i2 pc.1 pc.2
  have i4 : cx_I (sx_uf (sx_uf (sx_uf (sx_uf t.1 66 50 a) 66 56 b) 66 58 c) 66 71 e, t.2) := cx_I_uf rfl rfl i3 pe.1 pe.2
  have f1 : cx_F [(66, 66), (100, 107), (115, 122)] s (sx_uf t.1 66 50 a, t.2) := cx_F_uf rfl hF
  have f2 : cx_F [(66, 66), (100, 107), (115, 122)] s (sx_uf (sx_uf t.1 66 50 a) 66 56 b, t.2) := cx_F_uf rfl f1
  have f3 : cx_F [(66, 66), (100, 107), (115, 122)] s (sx_uf (sx_uf (sx_uf t.1 66 50 a) 66 56 b) 66 58 c, t.2) := cx_F_uf rfl f2
  have f4 : cx_F [(66, 66), (100, 107), (115, 122)] s (sx_uf (sx_uf (sx_uf (sx_uf t.1 66 50 a) 66 56 b) 66 58 c) 66 71 e, t.2) := cx_F_uf rfl f3
  have ef : ∀ q, q ≠ 50 → q ≠ 56 → q ≠ 58 → q ≠ 71 → sx_uf (sx_uf (sx_uf (sx_uf t.1 66 50 a) 66 56 b) 66 58 c) 66 71 e 66 q = t.1 66 q := fun q h1 h2 h3 h4 => by
    rw [sx_uf_if, if_neg (fun c => h4 c.2), sx_uf_if, if_neg (fun c => h3 c.2), sx_uf_if, if_neg (fun c => h2 c.2), sx_uf_if, if_neg (fun c => h1 c.2)]
  have n50 : sx_uf (sx_uf (sx_uf (sx_uf t.1 66 50 a) 66 56 b) 66 58 c) 66 71 e 66 50 = s.1 66 50 := by
    rw [sx_uf_if, if_neg (by decide), sx_uf_if, if_neg (by decide), sx_uf_if, if_neg (by decide), sx_uf_if, if_pos ⟨rfl, rfl⟩, ha]
  have n56 : sx_uf (sx_uf (sx_uf (sx_uf t.1 66 50 a) 66 56 b) 66 58 c) 66 71 e 66 56 = s.1 66 56 := by
    rw [sx_uf_if, if_neg (by decide), sx_uf_if, if_neg (by decide), sx_uf_if, if_pos ⟨rfl, rfl⟩, hb]
  have n58 : sx_uf (sx_uf (sx_uf (sx_uf t.1 66 50 a) 66 56 b) 66 58 c) 66 71 e 66 58 = s.1 66 58 := by
    rw [sx_uf_if, if_neg (by decide), sx_uf_if, if_pos ⟨rfl, rfl⟩, hc]
  have n71 : sx_uf (sx_uf (sx_uf (sx_uf t.1 66 50 a) 66 56 b) 66 58 c) 66 71 e 66 71 = s.1 66 71 := by
    rw [sx_uf_if, if_pos ⟨rfl, rfl⟩, he]
  have n61 := ef 61 (by decide) (by decide) (by decide) (by decide)
  have n64 := ef 64 (by decide) (by decide) (by decide) (by decide)
  have n70 := ef 70 (by decide) (by decide) (by decide) (by decide)
  have n9 := ef 9 (by decide) (by decide) (by decide) (by decide)
  have n42 := ef 42 (by decide) (by decide) (by decide) (by decide)
  obtain ⟨⟨⟨h9, h72, h73, h96, h42⟩, _, _, h61, h64, h70⟩, hR⟩ := hE
  refine ⟨⟨i4, ⟨⟨⟨n9.trans h9, h72, h73, h96, n42.trans h42⟩, ?_, ?_, ?_, ?_, ?_⟩, hR⟩, ⟨n61.trans hN.1, hN.2⟩, ?_⟩, f4, fun q hq => ?_⟩
  · dsimp only
    omega
  · dsimp only
    omega
  · dsimp only
    omega
  · dsimp only
    omega
  · dsimp only
    omega
  · exact rf_OD_same hO n61 (ef 83 (by decide) (by decide) (by decide) (by decide)) (ef 79 (by decide) (by decide) (by decide) (by decide)) (fun p _ => rfl)
  · show sx_uf (sx_uf (sx_uf (sx_uf t.1 66 50 a) 66 56 b) 66 58 c) 66 71 e 66 q = _
    by_cases q50 : q = 50
    · rw [q50]
      exact n50
    · by_cases q56 : q = 56
      · rw [q56]
        exact n56
      · by_cases q58 : q = 58
        · rw [q58]
          exact n58
        · by_cases q71 : q = 71
          · rw [q71]
            exact n71
          · rw [ef q q50 q56 q58 q71]
            refine hf q ?_
            simp only [List.contains_cons, List.contains_nil, Bool.or_eq_false_iff, beq_eq_false_iff_ne, ne_eq, and_true] at hq ⊢
            omega
/-- the state between calls, an answer being there -/
def rf_HS (s : sx_S) (g : rf_Gh) : Prop := rf_WW true (s.1 66 71) (s.1 66 58) s g ∧ s.1 66 45 ≤ s.1 66 61 ∧ (s.1 66 50 ≤ 59935 ∧ s.1 66 56 ≤ 119100 ∧ s.1 66 71 ≤ 390000 ∧ s.1 66 58 ≤ 390000) ∧ ∀ k : Int, 0 ≤ k → k < s.1 66 47 → rf_RT s g (s.2.1 98 k.toNat) ∧ rf_RT s g (s.2.1 99 k.toNat)
theorem rf_WW_86 {s : sx_S} {g : rf_Gh} {aM : Bool} {nb ib : Int} (h : rf_WW aM nb ib s g) : rf_WW aM nb ib (sx_uf s.1 66 86 0, s.2) g ∧ rf_WF s (sx_uf s.1 66 86 0, s.2) := by
  have hI := h.1.1
  have hI1 : cx_I (sx_uf s.1 66 86 0, s.2) := cx_I_uf rfl rfl hI (by decide) (by decide)
  have hF : cx_F [(66, 66), (122, 122)] s (sx_uf s.1 66 86 0, s.2) := cx_F_uf rfl (cx_F_refl _ _)
  have hf : rf_f [86] s (sx_uf s.1 66 86 0, s.2) := rf_f_uf rfl (rf_f_refl _ _)
  obtain ⟨hp, hO, _⟩ := rf_WF_put hF hf
  exact ⟨rf_WW_up h hI1 hp (hO h.2.2.2.2.2), hp⟩
