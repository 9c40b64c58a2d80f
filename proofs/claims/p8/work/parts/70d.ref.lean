/-! ===== the reference: memory, when an unknown becomes a new one ===== -/
theorem vr_S_NC {nb ib : Int} {s t : sx_S} {g : rf_Gh} {AR : Nat → List Int} (h : rf_EX nb ib s t) (hN : rf_NC s t) (h50 : t.1 66 50 = s.1 66 50) (hM : rf_MI nb ib s g) : vr_S t g AR = vr_S s g AR := by
  have e1 : vr_ar t = vr_ar s := by
    funext u
    by_cases c : 0 ≤ u ∧ u < s.1 66 61
    · rw [vr_ar_at c, vr_ar_at ⟨c.1, by rw [hN.1]; exact c.2⟩, h.aa c.1 c.2]
    · unfold vr_ar
      rw [hN.1, if_neg c, if_neg c]
  have e2 : vr_bo t g = vr_bo s g := by
    funext u
    by_cases c : 0 ≤ u ∧ u < s.1 66 61
    · by_cases cs : s.2.1 111 u.toNat = 0
      · rw [vr_bo_no cs, vr_bo_no (by rw [hN.2 u.toNat (by omega)]; exact cs)]
      · exact vr_bo_up h (rf_EG_refl s g) hM c cs
    · rw [vr_bo_out c, vr_bo_out (by rw [hN.1]; exact c)]
  unfold vr_S
  rw [e1, e2, hN.1, h50]
theorem vr_hd {nb ib : Int} {t : sx_S} {g' : rf_Gh} (hM : rf_MI nb ib t g') {x h : Int} {J : Nat} (hx : 0 ≤ x ∧ x < t.1 66 61) (hs : t.2.1 111 x.toNat ≠ 0) (e113 : t.2.1 113 x.toNat = (J : Int)) (e114 : t.2.1 114 x.toNat = -1) (hk : t.2.1 100 J = 3 ∧ t.2.1 101 J = h ∧ t.2.1 102 J = -1 ∧ t.2.1 103 J = -1) : g'.1 x = rf_n J 3 h .leaf .leaf ∧ g'.2.1 x = .leaf := by
  obtain ⟨⟨a1, _⟩, ⟨b1, _⟩, _⟩ := (hM.1 x hx.1 hx.2).2.2.2 hs
  rw [e113] at a1
  rw [e114] at b1
  constructor
  · obtain ⟨f, n, q1, _, _, q4, q5⟩ := rf_nd_cons a1 (by omega)
    rw [Int.toNat_natCast] at q1 q4 q5
    rw [hk.2.2.1] at q4
    rw [hk.2.2.2] at q5
    rw [q1, hk.1, hk.2.1, rf_nd_nil q4 rfl, rf_nd_nil q5 rfl]
  · cases hy : g'.2.1 x with
    | leaf => rfl
    | inner n k u l r =>
      rw [hy] at b1
      cases n with
      | zero =>
        have := b1.1.1
        omega
      | succ n =>
        have := b1.1.1
        omega
/-- the new node's row -/
def vr_nA (s : sx_S) (AR : Nat → List Int) (zs : List Int) (j : Nat) : List Int := if j = (s.1 66 50).toNat then zs else AR j
theorem vr_nA_lt {s : sx_S} {AR : Nat → List Int} {zs : List Int} : ∀ j : Nat, (j : Int) < s.1 66 50 → vr_nA s AR zs j = AR j := fun j hj => if_neg (by omega)
/-- the unknowns D have become the new one, whose row is zf -/
def vr_H1 (D : Int → Prop) (zf : Nat → Int) (n : Nat) (s t : sx_S) : Prop := (t.1 66 61 = s.1 66 61 + 1 ∧ t.1 66 50 = s.1 66 50 + 1 ∧ 0 ≤ s.1 66 50 ∧ 0 ≤ s.1 66 61) ∧ (∀ x : Int, 0 ≤ x → x < s.1 66 61 → ¬ D x → t.2.1 111 x.toNat = s.2.1 111 x.toNat) ∧ t.2.1 111 (s.1 66 61).toNat = 0 ∧ (∀ x : Int, D x → (0 ≤ x ∧ x < s.1 66 61) ∧ s.2.1 111 x.toNat = 0 ∧ t.2.1 111 x.toNat ≠ 0 ∧ t.2.1 113 x.toNat = s.1 66 50 ∧ t.2.1 114 x.toNat = -1) ∧ (t.2.1 100 (s.1 66 50).toNat = 3 ∧ t.2.1 101 (s.1 66 50).toNat = s.1 66 61 ∧ t.2.1 102 (s.1 66 50).toNat = -1 ∧ t.2.1 103 (s.1 66 50).toNat = -1) ∧ ((0 ≤ t.2.1 104 (s.1 66 50).toNat ∧ t.2.1 104 (s.1 66 50).toNat + (n : Int) ≤ t.1 66 56) ∧ rf_aa t (s.1 66 61) = (n : Int)) ∧ ∀ i, i < n → rf_rv1 t (s.1 66 50).toNat i = zf i
theorem vr_H1_ar {nb ib : Int} {D : Int → Prop} {zf : Nat → Int} {n : Nat} {s t : sx_S} (hE : rf_EX nb ib s t) (h : vr_H1 D zf n s t) (v : Int) : vr_ar t v = if v = s.1 66 61 then (n : Int) else vr_ar s v := by
  obtain ⟨⟨a1, a2, a3, a4⟩, _, _, _, _, ⟨_, f2⟩, _⟩ := h
  by_cases c : v = s.1 66 61
  · rw [if_pos c, vr_ar_at (by omega), c, f2]
  · rw [if_neg c]
    by_cases c2 : 0 ≤ v ∧ v < s.1 66 61
    · rw [vr_ar_at c2, vr_ar_at (by omega), hE.aa c2.1 c2.2]
    · unfold vr_ar
      rw [if_neg c2, if_neg (by omega)]
theorem vr_H1_bo {nb ib : Int} {D : Int → Prop} {zf : Nat → Int} {n : Nat} {s t : sx_S} {g g' : rf_Gh} (hE : rf_EX nb ib s t) (hG : rf_EG s g g') (hM : rf_MI nb ib s g) (hM' : rf_MI nb ib t g') (h : vr_H1 D zf n s t) (v : Int) : (D v → vr_bo t g' v = some (rf_n (s.1 66 50).toNat 3 (s.1 66 61) .leaf .leaf, vr_e t g' v) ∧ g'.2.1 v = .leaf) ∧ (¬ D v → vr_bo t g' v = vr_bo s g v) := by
  obtain ⟨⟨a1, a2, a3, a4⟩, b, c, d, e, _⟩ := h
  have eJ : (((s.1 66 50).toNat : Nat) : Int) = s.1 66 50 := Int.toNat_of_nonneg a3
  constructor
  · intro hD
    obtain ⟨d1, d2, d3, d4, d5⟩ := d v hD
    obtain ⟨h1, h2⟩ := vr_hd (J := (s.1 66 50).toNat) hM' (x := v) (by omega) d3 (by omega) d5 e
    refine ⟨?_, h2⟩
    rw [vr_bo_at (by omega) d3, h1, vr_1_in, vr_f_3 rfl]
  · intro hD
    by_cases c2 : 0 ≤ v ∧ v < s.1 66 61
    · have e1 := b v c2.1 c2.2 hD
      by_cases cs : s.2.1 111 v.toNat = 0
      · rw [vr_bo_no cs, vr_bo_no (by rw [e1]; exact cs)]
      · exact vr_bo_up hE hG hM c2 cs
    · rw [vr_bo_out c2]
      by_cases c3 : v = s.1 66 61
      · exact vr_bo_no (by rw [c3]; exact c)
      · exact vr_bo_out (by omega)
theorem vr_H1_p {D : Int → Prop} {zf : Nat → Int} {n : Nat} {s t : sx_S} {AR : Nat → List Int} (h : vr_H1 D zf n s t) : vr_p t (vr_nA s AR ((List.range n).map zf)) (s.1 66 50).toNat (s.1 66 61) := by
  obtain ⟨⟨a1, a2, a3, a4⟩, b, c, d, e, ⟨f1, f2⟩, z⟩ := h
  refine ⟨⟨by omega, by omega, f1.1, by rw [f2]; exact f1.2⟩, ?_⟩
  unfold vr_nA vr_rw
  rw [if_pos rfl, f2, Int.toNat_natCast]
  exact List.map_congr_left (fun i hi => (z i (List.mem_range.mp hi)).symm)
theorem vr_H1_G {nb ib : Int} {D : Int → Prop} {zf : Nat → Int} {n : Nat} {s t : sx_S} {g g' : rf_Gh} {AR : Nat → List Int} (hE : rf_EX nb ib s t) (hG : rf_EG s g g') (hM' : rf_MI nb ib t g') (h : vr_H1 D zf n s t) (k : vr_G s g AR) : vr_G t g' (vr_nA s AR ((List.range n).map zf)) := fun x h0 hm hs => by
  have hp := vr_H1_p (AR := AR) h
  obtain ⟨⟨a1, a2, a3, a4⟩, b, c, d, e, _⟩ := h
  by_cases hD : D x
  · obtain ⟨d1, d2, d3, d4, d5⟩ := d x hD
    obtain ⟨h1, h2⟩ := vr_hd (J := (s.1 66 50).toNat) hM' (x := x) (by omega) d3 (by omega) d5 e
    rw [h1]
    exact ⟨by omega, Or.inr (Or.inl ⟨rfl, hp⟩)⟩
  · have hne : x ≠ s.1 66 61 := fun q => by
      rw [q] at hs
      exact hs c
    rw [b x h0 (by omega) hD] at hs
    rw [((hG x h0 (by omega)).1 hs).1]
    exact (vr_t_up hE vr_nA_lt).1 (k x h0 (by omega) hs)
/-- the variables of the unknown x are xf -/
def vr_H2 (x row : Int) (xf : Nat → Int) (t : sx_S) : Prop := t.2.1 112 x.toNat = row ∧ (∀ q : Nat, (q : Int) < rf_aa t x → t.2.1 105 (row + (q : Int)).toNat = xf q) ∧ ∀ p q : Nat, (p : Int) < rf_aa t x → (q : Int) < rf_aa t x → xf p = xf q → p = q
theorem vr_H2_fm {x row : Int} {xf : Nat → Int} {t : sx_S} (h : vr_H2 x row xf t) {q : Nat} (hq : (q : Int) < rf_aa t x) : rf_fm t x q = xf q := by
  unfold rf_fm
  rw [h.1]
  exact h.2.1 q hq
theorem vr_H2_e {x row : Int} {xf : Nat → Int} {t : sx_S} {g' : rf_Gh} (h : vr_H2 x row xf t) (hy : g'.2.1 x = .leaf) : (∀ q : Nat, (q : Int) < rf_aa t x → vr_e t g' x (xf q) = (q : Int)) ∧ ∀ z, 0 ≤ vr_e t g' x z → ∃ q : Nat, (q : Int) < rf_aa t x ∧ vr_e t g' x z = (q : Int) ∧ z = xf q := by
  constructor
  · intro q hq
    refine vr_e_at (fun a b ha hb e => ?_) hq ?_
    · rw [vr_H2_fm h ha, vr_H2_fm h hb] at e
      exact h.2.2 a b ha hb e
    · rw [hy, vr_H2_fm h hq]
      rfl
  · intro z hz
    obtain ⟨q, q1, q2, q3⟩ := vr_e_nn hz
    rw [hy, vr_H2_fm h q1] at q3
    exact ⟨q, q1, q2, q3⟩
theorem vr_nw_mk {nb ib : Int} {D : Int → Prop} {n : Nat} {s t : sx_S} {g g' : rf_Gh} {AR : Nat → List Int} {m row : Int} {xf : Nat → Int} {kf : Nat → Nat} {S1 : vx_S} (hI : cx_I t) (hE : rf_EX nb ib s t) (h : vr_H1 D (fun i => xf (kf i)) n s t) (hm : 0 ≤ m ∧ m < s.1 66 61) (ho : s.2.1 111 m.toNat = 0) (h2 : vr_H2 m row xf t) (hy : g'.2.1 m = .leaf) (hkf : ∀ i, i < n → ((kf i : Nat) : Int) < rf_aa s m) (hki : ∀ i j, i < n → j < n → kf i = kf j → i = j) (e1 : S1.1 = t.1 66 61) (e2 : S1.2.1 = t.1 66 50) (e3 : S1.2.2.1 = vr_ar t) (e4 : ∀ v, S1.2.2.2.1 v = if v = m then some (rf_n (s.1 66 50).toNat 3 (s.1 66 61) .leaf .leaf, vr_e t g' m) else vr_bo s g v) (e5 : S1.2.2.2.2 = vr_nA s AR ((List.range n).map (fun i => xf (kf i)))) : vx_nw (vr_S s g AR) S1 m (s.1 66 50).toNat .leaf (vr_e t g' m) ((List.range n).map (fun i => xf (kf i))) ((List.range n).map (fun i => ((kf i : Nat) : Int))) := by
  have har := vr_H1_ar hE h
  obtain ⟨⟨a1, a2, a3, a4⟩, b, c, d, e, _⟩ := h
  have eam := hE.aa hm.1 hm.2
  refine ⟨⟨?_, ?_, ?_, ?_, fun _ hi => absurd hi List.not_mem_nil⟩, ⟨vr_bo_no ho, vr_bo_out (fun c => by have := c.2; exact Int.lt_irrefl _ this), hm⟩, fun v => ?_, e4, fun i hi => ?_, ?_, ?_, vr_gn (fun i j hi hj q => hki i j hi hj (by omega)), fun k hk => ?_, fun z => ?_⟩
  · rw [e1]
    exact a1
  · rw [e2]
    show s.1 66 50 ≤ _
    omega
  · show s.1 66 50 ≤ _
    omega
  · rw [e2]
    omega
  · rw [e3, har v, vr_gl]
    rfl
  · rw [e5]
    exact vr_nA_lt i hi
  · rw [e5]
    exact if_pos rfl
  · rw [List.map_map]
    refine List.map_congr_left (fun i hi => ?_)
    show vr_e t g' m (xf (kf i)) = _
    exact (vr_H2_e h2 hy).1 (kf i) (by rw [eam]; exact hkf i (List.mem_range.mp hi))
  · obtain ⟨i, i1, i2⟩ := vr_gm.mp hk
    show 0 ≤ k ∧ k < vr_ar s m
    rw [vr_ar_at hm]
    have := hkf i i1
    omega
  · show vr_e t g' m z < vr_ar s m
    rw [vr_ar_at hm, ← eam]
    exact vr_e_lt hI g' m z
/-- the ARGs of a call, as they are called -/
theorem vr_xs {s : sx_S} {AR : Nat → List Int} {j : Nat} {m i : Int} {y : rf_Y} (h : vr_p s AR j m) (hi : i.toNat = j) : (AR j).map (rf_look y) = (List.range (rf_aa s m).toNat).map (rf_vo s y i) := by
  rw [h.2]
  unfold vr_rw
  rw [List.map_map]
  refine List.map_congr_left (fun q _ => ?_)
  show rf_look y (rf_rv1 s j q) = rf_vo s y i q
  unfold rf_vo rf_rv1
  rw [hi]
/-- what keep leaves -/
theorem vr_keep {nb ib : Int} {s u t : sx_S} {g g' : rf_Gh} {AR : Nat → List Int} {m row : Int} {Tf : Nat → Int} {kf : Nat → Nat} {n : Nat} (hI : cx_I s) (hE : rf_EX nb ib s t) (hM : rf_MI nb ib s g) (hM' : rf_MI nb ib t g') (hG : rf_EG s g g') (hV : vr_G s g AR) (hm : 0 ≤ m ∧ m < s.1 66 61) (ho : s.2.1 111 m.toNat = 0) (hrow : 0 ≤ row ∧ row + rf_aa s m ≤ s.1 66 56) (hf3 : ∀ p q : Nat, (p : Int) < rf_aa s m → (q : Int) < rf_aa s m → s.2.1 105 (row + (p : Int)).toNat = s.2.1 105 (row + (q : Int)).toNat → p = q) (hW : rf_KW s u (fun q => s.2.1 105 (row + (q : Int)).toNat) Tf kf n) (hkf : ∀ i, i < n → ((kf i : Nat) : Int) < rf_aa s m) (hki : ∀ i j, i < n → j < n → kf i = kf j → i = j) (hA : rf_AS u t m row (s.1 66 50) (-1)) : vx_nw (vr_S s g AR) (vr_S t g' (vr_nA s AR ((List.range n).map (fun i => s.2.1 105 (row + ((kf i : Nat) : Int)).toNat)))) m (s.1 66 50).toNat .leaf (vr_e t g' m) ((List.range n).map (fun i => s.2.1 105 (row + ((kf i : Nat) : Int)).toNat)) ((List.range n).map (fun i => ((kf i : Nat) : Int))) ∧ vr_G t g' (vr_nA s AR ((List.range n).map (fun i => s.2.1 105 (row + ((kf i : Nat) : Int)).toNat))) := by
  obtain ⟨⟨b1, b2, b3⟩, ⟨c1, c2, c3, c4⟩, ⟨d1, d2, d3, d4, d5⟩, ⟨e1, e2, e3, e4, e5⟩, ⟨f1, f2, f3⟩, gg⟩ := hW
  obtain ⟨a1, a2, a3, a4, a5, a6, a7, a8, a9⟩ := hA
  have r61 := hI.fld 66 61 (by decide) rfl
  have r50 := hI.fld 66 50 (by decide) rfl
  have r56 := hI.fld 66 56 (by decide) rfl
  have e61 := a3 61 rfl
  have e50 := a3 50 rfl
  have e56 := a3 56 rfl
  have s105 : t.2.1 105 = u.2.1 105 := (a2.same 105 rfl).2
  have eam := hE.aa hm.1 hm.2
  have hH1 : vr_H1 (fun x => x = m) (fun i => s.2.1 105 (row + ((kf i : Nat) : Int)).toNat) n s t := by
    refine ⟨⟨by omega, by omega, r50.1, r61.1⟩, fun x h0 h1 hx => ?_, ?_, fun x hx => ?_, ?_, ⟨⟨?_, ?_⟩, ?_⟩, fun i hi => ?_⟩
    · rw [a5 111 _ (by omega) (by omega) (by omega)]
      exact d5 111 _ (by omega) (by omega) (by omega)
    · rw [a5 111 _ (by omega) (by omega) (by omega)]
      exact f3
    · have hx' : x = m := hx
      subst hx'
      exact ⟨hm, ho, by rw [a6]; decide, a8, a9⟩
    · rw [(a2.same 100 rfl).2, (a2.same 101 rfl).2, (a2.same 102 rfl).2, (a2.same 103 rfl).2]
      exact ⟨e1, e2, e3, e4⟩
    · rw [(a2.same 104 rfl).2, e5]
      exact r56.1
    · rw [(a2.same 104 rfl).2, e5]
      omega
    · unfold rf_aa
      rw [(a2.same 108 rfl).2]
      exact f1
    · unfold rf_rv1
      rw [(a2.same 104 rfl).2, e5, s105]
      exact (gg i hi).1
  have hH2 : vr_H2 m row (fun q => s.2.1 105 (row + (q : Int)).toNat) t := by
    refine ⟨a7, fun q hq => ?_, fun p q hp hq => ?_⟩
    · rw [s105]
      exact d2 105 _ (by omega) (by omega) (by omega)
    · rw [eam] at hp hq
      exact hf3 p q hp hq
  have hbo := vr_H1_bo hE hG hM hM' hH1
  refine ⟨vr_nw_mk (xf := fun q => s.2.1 105 (row + (q : Int)).toNat) (row := row) (g' := g') a1 hE hH1 hm ho hH2 ((hbo m).1 rfl).2 hkf hki rfl rfl rfl (fun v => ?_) rfl, vr_H1_G hE hG hM' hH1 hV⟩
  show vr_bo t g' v = _
  by_cases c : v = m
  · rw [if_pos c, c]
    exact ((hbo m).1 rfl).1
  · rw [if_neg c]
    exact (hbo v).2 c
