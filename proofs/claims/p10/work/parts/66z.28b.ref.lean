/-! ===== the reference: writeUnknown ===== -/
/-- an unknown before variables of its own, as far as they are made -/
def rf_WJ (s u : sx_S) (k i : Int) : Prop := (cx_I u ∧ cx_F [(66, 66), (100, 107), (122, 122)] s u ∧ rf_f [50, 56, 58, 86] s u) ∧ (u.1 66 50 = s.1 66 50 + 1 ∧ u.1 66 56 = s.1 66 56 + i ∧ u.1 66 58 = s.1 66 58 + i) ∧ (rf_ag 100 104 (s.1 66 50) s u ∧ rf_ag 105 105 (s.1 66 56) s u ∧ rf_ag 106 107 (s.1 66 58) s u) ∧ (rf_mk u (s.1 66 50) 3 k ∧ u.2.1 104 (s.1 66 50).toNat = s.1 66 56) ∧ ∀ q : Nat, (q : Int) < i → u.2.1 105 (s.1 66 56 + (q : Int)).toNat = s.1 66 58 + (q : Int) ∧ u.2.1 106 (s.1 66 58 + (q : Int)).toNat = s.2.1 110 (s.2.1 109 k.toNat + (q : Int)).toNat ∧ u.2.1 107 (s.1 66 58 + (q : Int)).toNat = (q : Int)
def rf_WX (s u t : sx_S) (k i v : Int) : Prop := (cx_I t ∧ cx_F [(66, 66), (105, 106)] u t ∧ rf_f [56, 58] u t) ∧ (t.1 66 56 = u.1 66 56 + 1 ∧ t.1 66 58 = u.1 66 58 + 1 ∧ v = u.1 66 58) ∧ (rf_ag 105 105 (u.1 66 56) u t ∧ rf_ag 106 106 (u.1 66 58) u t) ∧ t.2.1 105 (u.1 66 56).toNat = v ∧ t.2.1 106 v.toNat = s.2.1 110 (s.2.1 109 k.toNat + i).toNat
theorem rf_WJ_0 {s t : sx_S} {k z w : Int} (r50 : 0 ≤ s.1 66 50) (c1 : cx_I t) (c2 : cx_F [(66, 66), (100, 103)] s t) (c3 : z = s.1 66 50) (c4 : t.1 66 50 = s.1 66 50 + 1) (c5 : rf_f [50] s t) (c6 : rf_ag 100 103 (s.1 66 50) s t) (c7 : rf_mk t z 3 k) (hw : w = t.1 66 56) : rf_WJ s (t.1, sx_ua t.2.1 104 z.toNat w, t.2.2) k 0 := by
  have r56 := c1.fld 66 56 (by decide) rfl
  have e56 := c5 56 rfl
  have o : ∀ p, p ≠ 104 → sx_ua t.2.1 104 z.toNat w p = t.2.1 p := fun p hp => sx_ua_ne hp
  have hF : cx_F [(66, 66), (100, 107), (122, 122)] s t := cx_F_step c2 rfl (cx_F_refl _ _)
  refine ⟨⟨cx_I_ua rfl rfl c1 (by omega) (by omega), cx_F_ua rfl hF, rf_f_ua (rf_f_step c5 rfl (rf_f_refl _ _))⟩, ⟨c4, ?_, ?_⟩, ⟨?_, ?_, ?_⟩, ⟨?_, ?_⟩, fun q hq => absurd hq (by omega)⟩
  · show t.1 66 56 = _
    omega
  · show t.1 66 58 = _
    have := c5 58 rfl
    omega
  · intro p j h1 h2 h3
    by_cases hp : p = 104
    · subst hp
      show sx_ua t.2.1 104 z.toNat w 104 j = _
      rw [sx_ua_same]
      show (if j = z.toNat then w else t.2.1 104 j) = _
      rw [if_neg (by omega), (c2.same 104 rfl).2]
    · show sx_ua t.2.1 104 z.toNat w p j = _
      rw [o p hp]
      exact c6 p j h1 (by omega) h3
  · intro p j h1 h2 h3
    show sx_ua t.2.1 104 z.toNat w p j = _
    have : p = 105 := by omega
    subst this
    rw [o 105 (by decide), (c2.same 105 rfl).2]
  · intro p j h1 h2 h3
    show sx_ua t.2.1 104 z.toNat w p j = _
    have : p = 106 ∨ p = 107 := by omega
    rcases this with rfl | rfl
    · rw [o 106 (by decide), (c2.same 106 rfl).2]
    · rw [o 107 (by decide), (c2.same 107 rfl).2]
  · intro _
    obtain ⟨d1, d2, d3, d4⟩ := c7 trivial
    rw [c3] at d1 d2 d3 d4
    refine ⟨?_, ?_, ?_, ?_⟩
    · show sx_ua t.2.1 104 z.toNat w 100 _ = _
      rw [o 100 (by decide)]
      exact d1
    · show sx_ua t.2.1 104 z.toNat w 101 _ = _
      rw [o 101 (by decide)]
      exact d2
    · show sx_ua t.2.1 104 z.toNat w 102 _ = _
      rw [o 102 (by decide)]
      exact d3
    · show sx_ua t.2.1 104 z.toNat w 103 _ = _
      rw [o 103 (by decide)]
      exact d4
  · show sx_ua t.2.1 104 z.toNat w 104 _ = _
    rw [sx_ua_same]
    show (if (s.1 66 50).toNat = z.toNat then w else t.2.1 104 (s.1 66 50).toNat) = _
    rw [if_pos (by rw [c3])]
    omega
theorem rf_WX_0 {s u t : sx_S} {k i z m w a : Int} (c1 : cx_I t) (c2 : cx_F [(66, 66), (106, 106)] u t) (c3 : z = u.1 66 58) (c4 : t.1 66 58 = u.1 66 58 + 1) (c5 : rf_f [58] u t) (c6 : rf_ag 106 106 (u.1 66 58) u t) (c7 : t.2.1 106 z.toNat = a) (ha : a = s.2.1 110 (s.2.1 109 k.toNat + i).toNat) (h56 : 0 ≤ t.1 66 56 ∧ t.1 66 56 ≤ 119990) (hz : 0 ≤ z ∧ z ≤ 399999) (hm : m = t.1 66 56) (hw : w = t.1 66 56 + 1) : rf_WX s u (sx_uf t.1 66 56 w, sx_ua t.2.1 105 m.toNat z, t.2.2) k i z := by
  have e56 := c5 56 rfl
  have o : ∀ p, p ≠ 105 → sx_ua t.2.1 105 m.toNat z p = t.2.1 p := fun p hp => sx_ua_ne hp
  have hF : cx_F [(66, 66), (105, 106)] u t := cx_F_step c2 rfl (cx_F_refl _ _)
  have hI1 : cx_I (t.1, sx_ua t.2.1 105 m.toNat z, t.2.2) := cx_I_ua rfl rfl c1 (by omega) (by omega)
  have hF1 : cx_F [(66, 66), (105, 106)] u (t.1, sx_ua t.2.1 105 m.toNat z, t.2.2) := cx_F_ua rfl hF
  have hf1 : rf_f [56, 58] u (t.1, sx_ua t.2.1 105 m.toNat z, t.2.2) := rf_f_ua (rf_f_step c5 rfl (rf_f_refl _ _))
  refine ⟨⟨cx_I_uf rfl rfl hI1 (by omega) (by omega), cx_F_uf rfl hF1, rf_f_uf rfl hf1⟩, ⟨?_, ?_, c3⟩, ⟨?_, ?_⟩, ?_, ?_⟩
  · show sx_uf t.1 66 56 w 66 56 = _
    rw [sx_uf_if, if_pos ⟨rfl, rfl⟩]
    omega
  · show sx_uf t.1 66 56 w 66 58 = _
    rw [sx_uf_if, if_neg (by decide)]
    exact c4
  · intro p j h1 h2 h3
    have : p = 105 := by omega
    subst this
    show sx_ua t.2.1 105 m.toNat z 105 j = _
    rw [sx_ua_same]
    show (if j = m.toNat then z else t.2.1 105 j) = _
    rw [if_neg (by omega), (c2.same 105 rfl).2]
  · intro p j h1 h2 h3
    show sx_ua t.2.1 105 m.toNat z p j = _
    rw [o p (by omega)]
    exact c6 p j h1 h2 h3
  · show sx_ua t.2.1 105 m.toNat z 105 _ = _
    rw [sx_ua_same]
    show (if (u.1 66 56).toNat = m.toNat then z else t.2.1 105 (u.1 66 56).toNat) = _
    rw [if_pos (by omega)]
  · show sx_ua t.2.1 105 m.toNat z 106 _ = _
    rw [o 106 (by decide), c7, ha]
theorem rf_WJ_s {s u u1 t : sx_S} {k i v : Int} (r50 : 0 ≤ s.1 66 50) (r56 : 0 ≤ s.1 66 56) (r58 : 0 ≤ s.1 66 58) (hi : 0 ≤ i) (h : rf_WJ s u k i) (hx : rf_WX s u u1 k i v) (c1 : cx_I t) (c2 : cx_F [(66, 66), (107, 107), (122, 122)] u1 t) (c3 : rf_f [86] u1 t) (c4 : ∀ j : Nat, t.2.1 107 j = if j = v.toNat then i else u1.2.1 107 j) : rf_WJ s t k (i + 1) := by
  obtain ⟨⟨a1, a2, a3⟩, ⟨a4, a5, a6⟩, ⟨a7, a8, a9⟩, ⟨a10, a11⟩, a12⟩ := h
  obtain ⟨⟨b1, b2, b3⟩, ⟨b4, b5, b6⟩, ⟨b7, b8⟩, b9, b10⟩ := hx
  have e50 := b3 50 rfl
  have f50 := c3 50 rfl
  have f56 := c3 56 rfl
  have f58 := c3 58 rfl
  have E : ∀ p, 100 ≤ p → p ≤ 104 → t.2.1 p = u.2.1 p := fun p h1 h2 => by
    have : p = 100 ∨ p = 101 ∨ p = 102 ∨ p = 103 ∨ p = 104 := by omega
    rcases this with rfl | rfl | rfl | rfl | rfl <;> exact ((c2.same _ rfl).2).trans ((b2.same _ rfl).2)
  have g105 : t.2.1 105 = u1.2.1 105 := (c2.same 105 rfl).2
  have g106 : t.2.1 106 = u1.2.1 106 := (c2.same 106 rfl).2
  have g107 : u1.2.1 107 = u.2.1 107 := (b2.same 107 rfl).2
  refine ⟨⟨c1, cx_F_step c2 rfl (cx_F_step b2 rfl a2), rf_f_step c3 rfl (rf_f_step b3 rfl a3)⟩, ⟨by omega, by omega, by omega⟩, ⟨?_, ?_, ?_⟩, ⟨?_, ?_⟩, ?_⟩
  · intro p j h1 h2 h3
    rw [E p h1 h2]
    exact a7 p j h1 h2 h3
  · intro p j h1 h2 h3
    have : p = 105 := by omega
    subst this
    rw [g105, b7 105 j (by omega) (by omega) (by omega)]
    exact a8 105 j (by omega) (by omega) h3
  · intro p j h1 h2 h3
    have : p = 106 ∨ p = 107 := by omega
    rcases this with rfl | rfl
    · rw [g106, b8 106 j (by omega) (by omega) (by omega)]
      exact a9 106 j (by omega) (by omega) h3
    · rw [c4 j, if_neg (by omega), g107]
      exact a9 107 j (by omega) (by omega) h3
  · intro _
    rw [E 100 (by omega) (by omega), E 101 (by omega) (by omega), E 102 (by omega) (by omega), E 103 (by omega) (by omega)]
    exact a10 trivial
  · rw [E 104 (by omega) (by omega)]
    exact a11
  · intro q hq
    by_cases hqi : (q : Int) < i
    · obtain ⟨d1, d2, d3⟩ := a12 q hqi
      refine ⟨?_, ?_, ?_⟩
      · rw [g105, b7 105 _ (by omega) (by omega) (by omega)]
        exact d1
      · rw [g106, b8 106 _ (by omega) (by omega) (by omega)]
        exact d2
      · rw [c4, if_neg (by omega), g107]
        exact d3
    · have e : (q : Int) = i := by omega
      rw [e]
      refine ⟨?_, ?_, ?_⟩
      · rw [g105, show (s.1 66 56 + i).toNat = (u.1 66 56).toNat by omega, b9]
        omega
      · rw [g106, show (s.1 66 58 + i).toNat = v.toNat by omega, b10]
      · rw [c4, if_pos (by omega)]
/-- what this leaves as it was -/
theorem rf_WJ_EX {s u : sx_S} {k i : Int} (hi : 0 ≤ i) (h : rf_WJ s u k i) : rf_EX (s.1 66 71) (s.1 66 58) s u ∧ rf_NC s u ∧ (rf_OD s → rf_OD u) := by
  obtain ⟨⟨a1, a2, a3⟩, ⟨a4, a5, a6⟩, ⟨a7, a8, a9⟩, _, _⟩ := h
  have e61 := a3 61 rfl
  have e64 := a3 64 rfl
  have e70 := a3 70 rfl
  refine ⟨⟨⟨⟨a3 9 rfl, (a2.same 72 rfl).2, (a2.same 73 rfl).2, (a2.same 96 rfl).2, a3 42 rfl⟩, by omega, by omega, by omega, by omega, by omega⟩, fun j => ⟨fun hj => ⟨a7 100 j (by omega) (by omega) hj, a7 101 j (by omega) (by omega) hj, a7 102 j (by omega) (by omega) hj, a7 103 j (by omega) (by omega) hj, a7 104 j (by omega) (by omega) hj⟩, fun hj => a8 105 j (by omega) (by omega) hj, fun hj => a9 106 j (by omega) (by omega) hj, fun _ => ⟨by rw [(a2.same 108 rfl).2], by rw [(a2.same 109 rfl).2], fun _ => ⟨by rw [(a2.same 111 rfl).2], by rw [(a2.same 112 rfl).2], by rw [(a2.same 113 rfl).2], by rw [(a2.same 114 rfl).2]⟩⟩, fun _ => by rw [(a2.same 110 rfl).2], fun hj => ⟨by rw [(a2.same 115 rfl).2], by rw [(a2.same 116 rfl).2], by rw [(a2.same 117 rfl).2]⟩⟩⟩, ⟨e61, fun j _ => by rw [(a2.same 111 rfl).2]⟩, fun hO => rf_OD_same hO e61 (a3 83 rfl) (a3 79 rfl) (fun p hp => ?_)⟩
  rcases hp with rfl | rfl | rfl | rfl <;> exact (a2.same _ rfl).2
/-- it is a node under no names -/
theorem rf_WJ_CL {nb ib : Int} {s u : sx_S} {g : rf_Gh} {k : Int} (hM : rf_MI nb ib s g) (hk : 0 ≤ k ∧ k < s.1 66 61) (r50 : 0 ≤ s.1 66 50) (r56 : 0 ≤ s.1 66 56) (r58 : 0 ≤ s.1 66 58) (r108 : 0 ≤ s.2.1 108 k.toNat) (h70 : 0 ≤ s.1 66 70) (h : rf_WJ s u k (s.2.1 108 k.toNat)) : rf_CL u g (fun _ _ => False) (.inner (s.1 66 50).toNat (3, k) () .leaf .leaf) .leaf .leaf [] 1155 (s.1 66 50) (-1) ∧ rf_DI u .leaf (rf_fo (rf_Wd u g.2.2) (.inner (s.1 66 50).toNat (3, k) () .leaf .leaf)).1 (s.2.1 108 k.toNat) := by
  obtain ⟨⟨a1, a2, a3⟩, ⟨a4, a5, a6⟩, ⟨a7, a8, a9⟩, ⟨a10, a11⟩, a12⟩ := h
  obtain ⟨m1, m2, m3, m4⟩ := a10 trivial
  have e61 := a3 61 rfl
  have e64 := a3 64 rfl
  have e9 := a3 9 rfl
  have e70 := a3 70 rfl
  have e108 : u.2.1 108 = s.2.1 108 := (a2.same 108 rfl).2
  have e109 : u.2.1 109 = s.2.1 109 := (a2.same 109 rfl).2
  have e110 : u.2.1 110 = s.2.1 110 := (a2.same 110 rfl).2
  have e72 : u.2.1 72 = s.2.1 72 := (a2.same 72 rfl).2
  have e73 : u.2.1 73 = s.2.1 73 := (a2.same 73 rfl).2
  obtain ⟨y1, y2, _, _⟩ := hM.1 k hk.1 hk.2
  have eaa : rf_aa s k = s.2.1 108 k.toNat := rfl
  have ea : rf_aa u k = s.2.1 108 k.toNat := by
    show u.2.1 108 k.toNat = _
    rw [e108]
  have hrv : ∀ q : Nat, (q : Int) < s.2.1 108 k.toNat → rf_rv1 u (s.1 66 50).toNat q = s.1 66 58 + (q : Int) := fun q hq => by
    unfold rf_rv1
    rw [a11]
    exact (a12 q hq).1
  have hpy : ∀ (q : Nat) (T : rf_T), rf_py s k q T → rf_py u k q T := fun q T hT => by
    unfold rf_py rf_is at hT ⊢
    rw [e109, e110, e64, e72, e73, e9]
    exact hT
  have n0 : ¬ (((3 : Int), k).1 = 0) := fun c => by
    have c' : (3 : Int) = 0 := c
    omega
  have n12 : ¬ (((3 : Int), k).1 = 1 ∨ ((3 : Int), k).1 = 2) := fun c => by
    have c' : (3 : Int) = 1 ∨ (3 : Int) = 2 := c
    omega
  have hfo : ∀ v, (rf_fo (rf_Wd u g.2.2) (.inner (s.1 66 50).toNat (3, k) () .leaf .leaf)).1 v → ∃ q : Nat, (q : Int) < s.2.1 108 k.toNat ∧ v = s.1 66 58 + (q : Int) := by
    rintro v (⟨_, q, hq, hv⟩ | ⟨e, _⟩ | ⟨e, _⟩)
    · have := y2 q hq
      refine ⟨q, by omega, ?_⟩
      rw [hv]
      exact hrv q (by omega)
    · exact absurd e n0
    · exact absurd e n12
  have hwh : (rf_wh (.inner (s.1 66 50).toNat ((3 : Int), k) () .leaf .leaf)).1 = 5 := by
    show (if (3 : Int) = 3 then 5 else if (3 : Int) = 0 then 1 + (rf_wh .leaf).1 else 1 + (rf_wh .leaf).2) = 5
    exact if_pos rfl
  refine ⟨⟨⟨⟨⟨by omega, by omega⟩, ⟨m1, m2⟩, m3, m4⟩, Or.inr ⟨n0, .leaf, Or.inr (Or.inr (Or.inr ⟨rfl, rfl, ⟨hk.1, by show k < u.1 66 61; omega⟩, ⟨by omega, by show u.2.1 104 (s.1 66 50).toNat + rf_aa u k ≤ u.1 66 56; omega⟩, fun q hq => ?_⟩)), rfl, rfl⟩, ⟨fun _ _ h => h.elim, Or.inr (fun _ _ h => h)⟩, rf_NM_nil (by omega)⟩, ⟨⟨fun _ => ?_, fun c => absurd c n0, fun c => absurd c n12⟩, fun a b _ _ h => h⟩, by omega, ⟨List.nodup_nil, fun x hx => absurd hx List.not_mem_nil, ?_⟩⟩, fun v hv => ?_⟩
  · have hq1 : (q : Int) < rf_aa u k := hq
    have hq' : (q : Int) < s.2.1 108 k.toNat := by omega
    obtain ⟨T, hT⟩ := y1 q (by omega)
    refine ⟨T, hpy q T hT, Or.inl ⟨?_, ?_⟩⟩
    · rw [hrv q hq']
      omega
    · rw [hrv q hq']
      unfold rf_is
      rw [(a12 q hq').2.1, e72, e73, e9]
      exact hT.2.1
  · intro p q hp hq hpq
    have h1 := y2 p hp
    have h2 := y2 q hq
    have h1' : (p : Int) < s.2.1 108 k.toNat := h1
    have h2' : (q : Int) < s.2.1 108 k.toNat := h2
    have hpq' : rf_rv1 u (s.1 66 50).toNat p = rf_rv1 u (s.1 66 50).toNat q := hpq
    rw [hrv p h1', hrv q h2'] at hpq'
    omega
  · show 1150 + (rf_wh (.inner (s.1 66 50).toNat ((3 : Int), k) () .leaf .leaf)).1 ≤ 1155 + 0
    omega
  · obtain ⟨q, h1, h2⟩ := hfo v hv
    have d := (a12 q h1).2.2
    have lv : rf_look .leaf v = v := rfl
    rw [lv, h2, d]
    refine ⟨⟨by omega, h1⟩, fun w hw hvw => ?_⟩
    obtain ⟨q2, h3, h4⟩ := hfo w hw
    have d2 := (a12 q2 h3).2.2
    have lw : rf_look .leaf w = w := rfl
    rw [lw, h4, d2] at hvw
    omega
/-- what writing an unknown leaves -/
def rf_WU (s t : sx_S) : Prop := (cx_I t ∧ rf_EX (s.1 66 71) (s.1 66 58) s t ∧ rf_NC s t ∧ rf_OD t) ∧ (cx_F [(66, 66), (100, 107), (115, 122)] s t ∧ rf_f [50, 56, 58, 71, 79, 83, 86] s t) ∧ t.1 66 50 = s.1 66 50 + 1 ∧ (s.1 66 56 ≤ t.1 66 56 ∧ t.1 66 56 ≤ s.1 66 56 + 4) ∧ (s.1 66 58 ≤ t.1 66 58 ∧ t.1 66 58 ≤ s.1 66 58 + 1260) ∧ s.1 66 71 ≤ t.1 66 71 ∧ t.1 66 71 ≤ s.1 66 71 + 1260
