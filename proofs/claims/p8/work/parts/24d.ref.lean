/-! ===== the reference: what keep and join leave ===== -/
theorem rf_KW_EX {nb ib : Int} {s u : sx_S} {Vf Tf : Nat → Int} {kf : Nat → Nat} {n : Nat} (h : rf_KW s u Vf Tf kf n) : rf_EX nb ib s u := by
  obtain ⟨⟨b1, b2, b3⟩, ⟨c1, c2, c3, c4⟩, ⟨d1, d2, d3, d4, d5⟩, _⟩ := h
  have e70 := b3 70 rfl
  refine ⟨⟨⟨b3 9 rfl, (b2.same 72 rfl).2, (b2.same 73 rfl).2, (b2.same 96 rfl).2, b3 42 rfl⟩, by omega, by omega, by omega, by omega, by omega⟩, fun j => ⟨fun hj => ⟨d1 100 j (by omega) (by omega) hj, d1 101 j (by omega) (by omega) hj, d1 102 j (by omega) (by omega) hj, d1 103 j (by omega) (by omega) hj, d1 104 j (by omega) (by omega) hj⟩, fun hj => d2 105 j (by omega) (by omega) hj, fun _ => by rw [(b2.same 106 rfl).2], fun hj => ⟨d3 108 j (by omega) (by omega) hj, d3 109 j (by omega) (by omega) hj, fun _ => ⟨d5 111 j (by omega) (by omega) hj, by rw [(b2.same 112 rfl).2], by rw [(b2.same 113 rfl).2], by rw [(b2.same 114 rfl).2]⟩⟩, fun hj => d4 110 j (by omega) (by omega) hj, fun _ => ⟨by rw [(b2.same 115 rfl).2], by rw [(b2.same 116 rfl).2], by rw [(b2.same 117 rfl).2]⟩⟩⟩
theorem rf_AS_EX {nb ib : Int} {u t : sx_S} {m row J b : Int} (hm : 0 ≤ m) (ho : u.2.1 111 m.toNat = 0) (h : rf_AS u t m row J b) : rf_EX nb ib u t := by
  obtain ⟨a1, a2, a3, a4, a5, a6⟩ := h
  have e50 := a3 50 rfl
  have e56 := a3 56 rfl
  have e61 := a3 61 rfl
  have e64 := a3 64 rfl
  refine ⟨⟨⟨a3 9 rfl, (a2.same 72 rfl).2, (a2.same 73 rfl).2, (a2.same 96 rfl).2, a3 42 rfl⟩, by omega, by omega, by omega, by omega, by omega⟩, fun j => ⟨fun _ => ⟨by rw [(a2.same 100 rfl).2], by rw [(a2.same 101 rfl).2], by rw [(a2.same 102 rfl).2], by rw [(a2.same 103 rfl).2], by rw [(a2.same 104 rfl).2]⟩, fun _ => by rw [(a2.same 105 rfl).2], fun _ => by rw [(a2.same 106 rfl).2], fun _ => ⟨by rw [(a2.same 108 rfl).2], by rw [(a2.same 109 rfl).2], fun q => ?_⟩, fun _ => by rw [(a2.same 110 rfl).2], fun _ => ⟨by rw [(a2.same 115 rfl).2], by rw [(a2.same 116 rfl).2], by rw [(a2.same 117 rfl).2]⟩⟩⟩
  have hj : (j : Int) ≠ m := fun e => by
    have : m.toNat = j := by omega
    rw [this] at ho
    exact q ho
  exact ⟨a5 111 j (by omega) (by omega) hj, a5 112 j (by omega) (by omega) hj, a5 113 j (by omega) (by omega) hj, a5 114 j (by omega) (by omega) hj⟩
/-- the new unknown -/
theorem rf_KW_new {nb ib : Int} {s u : sx_S} {g : rf_Gh} {m : Int} {Vf : Nat → Int} {kf : Nat → Nat} {n : Nat} (hI : cx_I s) (hM : rf_MI nb ib s g) (hm : 0 ≤ m ∧ m < s.1 66 61) (hW : rf_KW s u Vf (fun q => s.2.1 110 (s.2.1 109 m.toNat + (q : Int)).toNat) kf n) (hkf : ∀ i, i < n → ((kf i : Nat) : Int) < s.2.1 108 m.toNat) : rf_aa u (s.1 66 61) = (n : Int) ∧ (∀ i T, i < n → (rf_py u (s.1 66 61) i T ↔ rf_py u m (kf i) T)) ∧ ∃ g1 : rf_Gh, rf_MI nb ib u g1 ∧ rf_EG s g g1 ∧ g1.1 = g.1 ∧ (∀ z, z ≠ s.1 66 61 → g1.2.2 z = g.2.2 z) ∧ rf_ph u g1 = rf_ph s g + (200 + 6 * (1 + n)) ∧ rf_qu u = rf_qu s + (1 + n) := by
  have hE : rf_EX nb ib s u := rf_KW_EX hW
  obtain ⟨⟨b1, b2, b3⟩, ⟨c1, c2, c3, c4⟩, ⟨d1, d2, d3, d4, d5⟩, ⟨e1, e2, e3, e4, e5⟩, ⟨f1, f2, f3⟩, gg⟩ := hW
  have r61 := hI.fld 66 61 (by decide) rfl
  have r64 := hI.fld 66 64 (by decide) rfl
  have r109 := hI.arr 109 (by decide) rfl m.toNat
  have eaa : rf_aa u (s.1 66 61) = (n : Int) := f1
  have em : u.2.1 109 m.toNat = s.2.1 109 m.toNat := d3 109 _ (by omega) (by omega) (by omega)
  have hpt : ∀ i T, i < n → (rf_py u (s.1 66 61) i T ↔ rf_py u m (kf i) T) := fun i T hi => by
    obtain ⟨T0, ⟨h1, h2⟩, h3, h4⟩ := (hM.1 m hm.1 hm.2).1 (kf i) (hkf i hi)
    have k1 : u.2.1 110 (u.2.1 109 (s.1 66 61).toNat + (i : Int)).toNat = u.2.1 110 (u.2.1 109 m.toNat + ((kf i : Nat) : Int)).toNat := by
      rw [f2, (gg i hi).2, em]
      exact (d4 110 _ (by omega) (by omega) (by omega)).symm
    unfold rf_py
    rw [k1, f2, em]
    constructor
    · rintro ⟨_, z2⟩
      exact ⟨⟨h1, by omega⟩, z2⟩
    · rintro ⟨_, z2⟩
      exact ⟨⟨r64.1, by omega⟩, z2⟩
  refine ⟨eaa, hpt, ?_⟩
  have k := rf_MI_new (g := g) (g' := (g.1, g.2.1, fun r q => if r = s.1 66 61 then (q : Int) < rf_aa u (s.1 66 61) else g.2.2 r q)) hE (Int.le_refl _) (Int.le_refl _) r61.1 c2 (fun j hj => d5 111 j (by omega) (by omega) hj) f3 (fun q hq => by
    obtain ⟨T, hT⟩ := (hM.1 m hm.1 hm.2).1 (kf q) (hkf q (by omega))
    exact ⟨T, (hpt q T (by omega)).mpr (hE.pt hm.1 hm.2 hT)⟩) rfl rfl (fun r hr => by funext q; exact if_neg hr) (fun q => by dsimp only; rw [if_pos rfl]) hM
  refine ⟨_, k.1, k.2, rfl, fun z hz => by funext q; exact if_neg hz, ?_, ?_⟩
  · have := rf_ph_new (t := u) (g := g) (g' := (g.1, g.2.1, fun r q => if r = s.1 66 61 then (q : Int) < rf_aa u (s.1 66 61) else g.2.2 r q)) r61.1 c2 (fun j hj => ⟨d5 111 j (by omega) (by omega) hj, d3 108 j (by omega) (by omega) hj⟩) f3 rfl
    rw [this, eaa]
    rfl
  · have := rf_qu_new (t := u) r61.1 c2 (fun j hj => ⟨d5 111 j (by omega) (by omega) hj, d3 108 j (by omega) (by omega) hj⟩) f3
    rw [this, eaa]
    rfl
/-- an unknown that becomes the new one -/
theorem rf_AS_head {nb ib : Int} {u t : sx_S} {g : rf_Gh} {m row h : Int} {J : Nat} (hI : cx_I u) (hM : rf_MI nb ib u g) (hm : 0 ≤ m ∧ m < u.1 66 61) (ho : u.2.1 111 m.toNat = 0) (hh : 0 ≤ h ∧ h < u.1 66 61) (hhm : h ≠ m) (hho : u.2.1 111 h.toNat = 0) (hJ : (J : Int) < u.1 66 50) (hk : u.2.1 100 J = 3 ∧ u.2.1 101 J = h ∧ u.2.1 102 J = -1 ∧ u.2.1 103 J = -1) (hb : 0 ≤ u.2.1 104 J ∧ u.2.1 104 J + rf_aa u h ≤ u.1 66 56) (h70 : 0 ≤ u.1 66 70) (hrow : 0 ≤ row ∧ row + rf_aa u m ≤ u.1 66 56) (hf2 : ∀ q : Nat, (q : Int) < rf_aa u m → (∃ T, rf_py u m q T ∧ rf_vb ib u (u.2.1 105 (row + (q : Int)).toNat) T) ∨ u.2.1 105 (row + (q : Int)).toNat = -2 - (q : Int)) (hf3 : ∀ p q : Nat, (p : Int) < rf_aa u m → (q : Int) < rf_aa u m → u.2.1 105 (row + (p : Int)).toNat = u.2.1 105 (row + (q : Int)).toNat → p = q) (hr : ∀ i : Nat, (i : Int) < rf_aa u h → ∃ p : Nat, (p : Int) < rf_aa u m ∧ rf_rv1 u J i = u.2.1 105 (row + (p : Int)).toNat ∧ ∀ T, rf_py u h i T → rf_py u m p T) (hinj : ∀ i i' : Nat, (i : Int) < rf_aa u h → (i' : Int) < rf_aa u h → rf_rv1 u J i = rf_rv1 u J i' → i = i') (hA : rf_AS u t m row (J : Int) (-1)) : ∃ g' : rf_Gh, rf_MI nb ib t g' ∧ rf_EG u g g' ∧ (∀ z, z ≠ m → g'.1 z = g.1 z) ∧ (∀ q, g'.2.2 m q → ∃ i : Nat, (i : Int) < rf_aa u h ∧ (q : Int) < rf_aa u m ∧ rf_rv1 u J i = u.2.1 105 (row + (q : Int)).toNat) ∧ rf_ph t g' + (200 + 6 * (1 + (rf_aa u m).toNat)) = rf_ph u g + 5 ∧ rf_qu t + (1 + (rf_aa u m).toNat) = rf_qu u := by
  have hE : rf_EX nb ib u t := rf_AS_EX hm.1 ho hA
  obtain ⟨a1, a2, a3, a4, a5, a6, a7, a8, a9⟩ := hA
  have e61 := a3 61 rfl
  have e50 := a3 50 rfl
  have e56 := a3 56 rfl
  have eah := hE.aa hh.1 hh.2
  have eam := hE.aa hm.1 hm.2
  have s105 : t.2.1 105 = u.2.1 105 := (a2.same 105 rfl).2
  have s104 : t.2.1 104 = u.2.1 104 := (a2.same 104 rfl).2
  have hrv : ∀ i, rf_rv1 t J i = rf_rv1 u J i := fun i => by
    unfold rf_rv1
    rw [s105, s104]
  have hfm : ∀ q, rf_fm t m q = u.2.1 105 (row + (q : Int)).toNat := fun q => by
    unfold rf_fm
    rw [s105, a7]
  have hpR : ∀ (x : Int) (q : Nat) (T : rf_T), 0 ≤ x → x < u.1 66 61 → (q : Int) < rf_aa u x → (rf_py t x q T ↔ rf_py u x q T) := fun x q T x0 x1 hq => by
    obtain ⟨T0, hT0⟩ := (hM.1 x x0 x1).1 q hq
    exact ⟨fun z => hE.ptR x0 x1 hT0 z, fun z => hE.pt x0 x1 z⟩
  have e111 : ∀ j : Nat, (j : Int) < u.1 66 61 → (j : Int) ≠ m → t.2.1 111 j = u.2.1 111 j := fun j _ hj => a5 111 j (by omega) (by omega) hj
  have ht0 : t.2.1 111 m.toNat ≠ 0 := by rw [a6]; decide
  obtain ⟨g', g1, g2, g3, g4, g5, g6⟩ := rf_MI_head (J := J) (h := h) hE hm.1 hm.2 e61 ho ht0 e111 hh.1 hh.2 hhm hho (by omega) (by rw [(a2.same 100 rfl).2, (a2.same 101 rfl).2, (a2.same 102 rfl).2, (a2.same 103 rfl).2]; exact hk) (by rw [s104, eah, e56]; exact hb) a8 a9 (by omega) (by rw [a7, eam, e56]; exact hrow) (fun q hq => by
    rw [eam] at hq
    rw [hfm]
    rcases hf2 q hq with ⟨T, t1, t2⟩ | z
    · exact Or.inl ⟨T, hE.pt hm.1 hm.2 t1, (hE.vb (Int.le_refl _) _ _).mpr t2⟩
    · exact Or.inr z) (fun p q hp hq => by
    rw [eam] at hp hq
    rw [hfm, hfm]
    exact hf3 p q hp hq) (fun i hi => by
    rw [eah] at hi
    obtain ⟨p, p1, p2, p3⟩ := hr i hi
    refine ⟨p, by omega, by rw [hrv, hfm]; exact p2, fun T hT => ?_⟩
    exact (hpR m p T hm.1 hm.2 p1).mpr (p3 T ((hpR h i T hh.1 hh.2 hi).mp hT))) (fun i i' hi hi' => by
    rw [eah] at hi hi'
    rw [hrv, hrv]
    exact hinj i i' hi hi') hM
  refine ⟨g', g1, g2, g4, fun q hq => ?_, ?_, ?_⟩
  · obtain ⟨i, i1, i2, i3⟩ := g6 q hq
    rw [hrv, hfm] at i3
    exact ⟨i, by omega, by omega, i3⟩
  · have := rf_ph_set (g := g) (g' := g') hm.1 hm.2 e61 ho ht0 (fun j hj hj2 => ⟨e111 j hj hj2, by rw [(a2.same 108 rfl).2]⟩) g4
    rw [g3] at this
    exact this
  · exact rf_qu_set hm.1 hm.2 e61 ho ht0 (fun j hj hj2 => ⟨e111 j hj hj2, by rw [(a2.same 108 rfl).2]⟩)
theorem rf_MI_keep {nb ib : Int} {s u t : sx_S} {g : rf_Gh} {m row : Int} {kf : Nat → Nat} {n : Nat} (hI : cx_I s) (hM : rf_MI nb ib s g) (hm : 0 ≤ m ∧ m < s.1 66 61) (ho : s.2.1 111 m.toNat = 0) (h70 : 0 ≤ s.1 66 70) (hrow : 0 ≤ row ∧ row + rf_aa s m ≤ s.1 66 56) (hf2 : ∀ q : Nat, (q : Int) < rf_aa s m → (∃ T, rf_py s m q T ∧ rf_vb ib s (s.2.1 105 (row + (q : Int)).toNat) T) ∨ s.2.1 105 (row + (q : Int)).toNat = -2 - (q : Int)) (hf3 : ∀ p q : Nat, (p : Int) < rf_aa s m → (q : Int) < rf_aa s m → s.2.1 105 (row + (p : Int)).toNat = s.2.1 105 (row + (q : Int)).toNat → p = q) (hW : rf_KW s u (fun q => s.2.1 105 (row + (q : Int)).toNat) (fun q => s.2.1 110 (s.2.1 109 m.toNat + (q : Int)).toNat) kf n) (hkf : ∀ i, i < n → ((kf i : Nat) : Int) < s.2.1 108 m.toNat) (hki : ∀ i j, i < n → j < n → kf i = kf j → i = j) (hn : (n : Int) < s.2.1 108 m.toNat) (hA : rf_AS u t m row (s.1 66 50) (-1)) : rf_EX nb ib s t ∧ ∃ g' : rf_Gh, rf_MI nb ib t g' ∧ rf_EG s g g' ∧ rf_ph t g' ≤ rf_ph s g ∧ rf_qu t + 1 ≤ rf_qu s ∧ (∀ q, g'.2.2 m q → ∃ i, i < n ∧ q = kf i) ∧ (rf_RM 8 s → rf_RM 0 t) := by
  have hE : rf_EX nb ib s u := rf_KW_EX hW
  obtain ⟨eaa, hpt, g1, k1, k2, k3, k4, k5, k6⟩ := rf_KW_new hI hM hm hW hkf
  have r61 := hI.fld 66 61 (by decide) rfl
  have r50 := hI.fld 66 50 (by decide) rfl
  have r56 := hI.fld 66 56 (by decide) rfl
  have r108 := hI.arr 108 (by decide) rfl m.toNat
  obtain ⟨⟨b1, b2, b3⟩, ⟨c1, c2, c3, c4⟩, ⟨d1, d2, d3, d4, d5⟩, ⟨e1, e2, e3, e4, e5⟩, ⟨f1, f2, f3⟩, gg⟩ := hW
  have eam : rf_aa u m = rf_aa s m := hE.aa hm.1 hm.2
  have eJ : (((s.1 66 50).toNat : Nat) : Int) = s.1 66 50 := Int.toNat_of_nonneg r50.1
  have hou : u.2.1 111 m.toNat = 0 := by rw [d5 111 _ (by omega) (by omega) (by omega)]; exact ho
  have h105 : ∀ q : Nat, (q : Int) < rf_aa s m → u.2.1 105 (row + (q : Int)).toNat = s.2.1 105 (row + (q : Int)).toNat := fun q hq => d2 105 _ (by omega) (by omega) (by omega)
  have hrv : ∀ i, i < n → rf_rv1 u (s.1 66 50).toNat i = s.2.1 105 (row + ((kf i : Nat) : Int)).toNat := fun i hi => by
    unfold rf_rv1
    rw [e5]
    exact (gg i hi).1
  have hkf2 : ∀ i, i < n → ((kf i : Nat) : Int) < rf_aa s m := hkf
  obtain ⟨g', h1, h2, h3, h4, h5, h6⟩ := rf_AS_head (nb := nb) (ib := ib) (J := (s.1 66 50).toNat) (h := s.1 66 61) (row := row) (t := t) b1 k1 (by omega) hou (by omega) (by omega) f3 (by omega) ⟨e1, e2, e3, e4⟩ (by rw [e5, eaa]; omega) (by have := b3 70 rfl; omega) (by rw [eam]; omega) (fun q hq => by
    rw [eam] at hq
    rw [h105 q hq]
    rcases hf2 q hq with ⟨T, t1, t2⟩ | z
    · exact Or.inl ⟨T, hE.pt hm.1 hm.2 t1, (hE.vb (Int.le_refl _) _ _).mpr t2⟩
    · exact Or.inr z) (fun p q hp hq => by
    rw [eam] at hp hq
    rw [h105 p hp, h105 q hq]
    exact hf3 p q hp hq) (fun i hi => by
    rw [eaa] at hi
    have hi2 : i < n := by omega
    refine ⟨kf i, by rw [eam]; exact hkf2 i hi2, by rw [hrv i hi2, h105 _ (hkf2 i hi2)], fun T hT => (hpt i T hi2).mp hT⟩) (fun i i' hi hi' e => by
    rw [eaa] at hi hi'
    have hi2 : i < n := by omega
    have hi2' : i' < n := by omega
    rw [hrv i hi2, hrv i' hi2'] at e
    exact hki i i' hi2 hi2' (hf3 _ _ (hkf2 i hi2) (hkf2 i' hi2') e)) (by rw [eJ]; exact hA)
  have hE2 : rf_EX nb ib u t := rf_AS_EX hm.1 hou hA
  have ea : (rf_aa u m).toNat = (s.2.1 108 m.toNat).toNat := by rw [eam]; rfl
  rw [ea] at h5 h6
  refine ⟨rf_EX_trans hE2 hE (Int.le_refl _) (Int.le_refl _), g', h1, rf_EG_trans hE h2 k2, by omega, by omega, fun q hq => ?_, ?_⟩
  · obtain ⟨i, i1, i2, i3⟩ := h4 q hq
    rw [eaa] at i1
    rw [eam] at i2
    have hi2 : i < n := by omega
    rw [hrv i hi2, h105 q i2] at i3
    exact ⟨i, hi2, (hf3 _ _ (hkf2 i hi2) i2 i3).symm⟩
  · rintro ⟨q1, q2, q3, q4, q5, q6⟩
    obtain ⟨a1, a2, a3, a4, a5, a6⟩ := hA
    have w50 := a3 50 rfl
    have w56 := a3 56 rfl
    have w61 := a3 61 rfl
    have w64 := a3 64 rfl
    have w70 := b3 70 rfl
    exact ⟨by omega, by omega, by omega, by omega, by omega, by omega⟩
theorem rf_MI_join {nb ib : Int} {s u v t : sx_S} {g : rf_Gh} {m m2 row row2 : Int} {kf kg : Nat → Nat} {n : Nat} (hI : cx_I s) (hM : rf_MI nb ib s g) (hm : 0 ≤ m ∧ m < s.1 66 61) (hm2 : 0 ≤ m2 ∧ m2 < s.1 66 61) (hne : m ≠ m2) (ho : s.2.1 111 m.toNat = 0) (ho2 : s.2.1 111 m2.toNat = 0) (h70 : 0 ≤ s.1 66 70) (hrow : 0 ≤ row ∧ row + rf_aa s m ≤ s.1 66 56) (hrow2 : 0 ≤ row2 ∧ row2 + rf_aa s m2 ≤ s.1 66 56) (hf2 : ∀ q : Nat, (q : Int) < rf_aa s m → ∃ T, rf_py s m q T ∧ rf_vb ib s (s.2.1 105 (row + (q : Int)).toNat) T) (hf3 : ∀ p q : Nat, (p : Int) < rf_aa s m → (q : Int) < rf_aa s m → s.2.1 105 (row + (p : Int)).toNat = s.2.1 105 (row + (q : Int)).toNat → p = q) (hg2 : ∀ q : Nat, (q : Int) < rf_aa s m2 → ∃ T, rf_py s m2 q T ∧ rf_vb ib s (s.2.1 105 (row2 + (q : Int)).toNat) T) (hg3 : ∀ p q : Nat, (p : Int) < rf_aa s m2 → (q : Int) < rf_aa s m2 → s.2.1 105 (row2 + (p : Int)).toNat = s.2.1 105 (row2 + (q : Int)).toNat → p = q) (hW : rf_KW s u (fun q => s.2.1 105 (row + (q : Int)).toNat) (fun q => s.2.1 110 (s.2.1 109 m.toNat + (q : Int)).toNat) kf n) (hkf : ∀ i, i < n → ((kf i : Nat) : Int) < s.2.1 108 m.toNat) (hkg : ∀ i, i < n → ((kg i : Nat) : Int) < s.2.1 108 m2.toNat ∧ s.2.1 105 (row + ((kf i : Nat) : Int)).toNat = s.2.1 105 (row2 + ((kg i : Nat) : Int)).toNat) (hki : ∀ i j, i < n → j < n → kf i = kf j → i = j) (hn : (n : Int) ≤ s.2.1 108 m.toNat) (hA : rf_AS u v m row (s.1 66 50) (-1)) (hA2 : rf_AS v t m2 row2 (s.1 66 50) (-1)) : rf_EX nb ib s t ∧ ∃ g' : rf_Gh, rf_MI nb ib t g' ∧ rf_EG s g g' ∧ rf_ph t g' ≤ rf_ph s g ∧ rf_qu t + 1 ≤ rf_qu s ∧ (rf_RM 8 s → rf_RM 0 t) := by
  have hE : rf_EX nb ib s u := rf_KW_EX hW
  obtain ⟨eaa, hpt, g1, k1, k2, k3, k4, k5, k6⟩ := rf_KW_new hI hM hm hW hkf
  have r61 := hI.fld 66 61 (by decide) rfl
  have r50 := hI.fld 66 50 (by decide) rfl
  have r56 := hI.fld 66 56 (by decide) rfl
  have r108 := hI.arr 108 (by decide) rfl m.toNat
  have r108b := hI.arr 108 (by decide) rfl m2.toNat
  obtain ⟨⟨b1, b2, b3⟩, ⟨c1, c2, c3, c4⟩, ⟨d1, d2, d3, d4, d5⟩, ⟨e1, e2, e3, e4, e5⟩, ⟨f1, f2, f3⟩, gg⟩ := hW
  have eam : rf_aa u m = rf_aa s m := hE.aa hm.1 hm.2
  have eam2 : rf_aa u m2 = rf_aa s m2 := hE.aa hm2.1 hm2.2
  have eJ : (((s.1 66 50).toNat : Nat) : Int) = s.1 66 50 := Int.toNat_of_nonneg r50.1
  have hou : u.2.1 111 m.toNat = 0 := by rw [d5 111 _ (by omega) (by omega) (by omega)]; exact ho
  have hou2 : u.2.1 111 m2.toNat = 0 := by rw [d5 111 _ (by omega) (by omega) (by omega)]; exact ho2
  have h105 : ∀ q : Nat, (q : Int) < rf_aa s m → u.2.1 105 (row + (q : Int)).toNat = s.2.1 105 (row + (q : Int)).toNat := fun q hq => d2 105 _ (by omega) (by omega) (by omega)
  have h105b : ∀ q : Nat, (q : Int) < rf_aa s m2 → u.2.1 105 (row2 + (q : Int)).toNat = s.2.1 105 (row2 + (q : Int)).toNat := fun q hq => d2 105 _ (by omega) (by omega) (by omega)
  have hrv : ∀ i, i < n → rf_rv1 u (s.1 66 50).toNat i = s.2.1 105 (row + ((kf i : Nat) : Int)).toNat := fun i hi => by
    unfold rf_rv1
    rw [e5]
    exact (gg i hi).1
  have hkf2 : ∀ i, i < n → ((kf i : Nat) : Int) < rf_aa s m := hkf
  have hinj : ∀ i i' : Nat, (i : Int) < rf_aa u (s.1 66 61) → (i' : Int) < rf_aa u (s.1 66 61) → rf_rv1 u (s.1 66 50).toNat i = rf_rv1 u (s.1 66 50).toNat i' → i = i' := fun i i' hi hi' e => by
    rw [eaa] at hi hi'
    have hi2 : i < n := by omega
    have hi2' : i' < n := by omega
    rw [hrv i hi2, hrv i' hi2'] at e
    exact hki i i' hi2 hi2' (hf3 _ _ (hkf2 i hi2) (hkf2 i' hi2') e)
  obtain ⟨g', h1, h2, h3, h4, h5, h6⟩ := rf_AS_head (nb := nb) (ib := ib) (J := (s.1 66 50).toNat) (h := s.1 66 61) (row := row) (t := v) b1 k1 (by omega) hou (by omega) (by omega) f3 (by omega) ⟨e1, e2, e3, e4⟩ (by rw [e5, eaa]; omega) (by have := b3 70 rfl; omega) (by rw [eam]; omega) (fun q hq => by
    rw [eam] at hq
    rw [h105 q hq]
    obtain ⟨T, t1, t2⟩ := hf2 q hq
    exact Or.inl ⟨T, hE.pt hm.1 hm.2 t1, (hE.vb (Int.le_refl _) _ _).mpr t2⟩) (fun p q hp hq => by
    rw [eam] at hp hq
    rw [h105 p hp, h105 q hq]
    exact hf3 p q hp hq) (fun i hi => by
    rw [eaa] at hi
    have hi2 : i < n := by omega
    refine ⟨kf i, by rw [eam]; exact hkf2 i hi2, by rw [hrv i hi2, h105 _ (hkf2 i hi2)], fun T hT => (hpt i T hi2).mp hT⟩) hinj (by rw [eJ]; exact hA)
  have hE2 : rf_EX nb ib u v := rf_AS_EX hm.1 hou hA
  have hA' := hA
  obtain ⟨a1, a2, a3, a4, a5, a6, a7, a8, a9⟩ := hA'
  have w50 := a3 50 rfl
  have w56 := a3 56 rfl
  have w61 := a3 61 rfl
  have w64 := a3 64 rfl
  have w70 := b3 70 rfl
  have hov : v.2.1 111 m2.toNat = 0 := by rw [a5 111 _ (by omega) (by omega) (by omega)]; exact hou2
  have v105 : v.2.1 105 = u.2.1 105 := (a2.same 105 rfl).2
  have v104 : v.2.1 104 = u.2.1 104 := (a2.same 104 rfl).2
  have v108 : v.2.1 108 = u.2.1 108 := (a2.same 108 rfl).2
  have ev : ∀ x, rf_aa v x = rf_aa u x := fun x => by unfold rf_aa; rw [v108]
  have vrv : ∀ i, rf_rv1 v (s.1 66 50).toNat i = rf_rv1 u (s.1 66 50).toNat i := fun i => by
    unfold rf_rv1
    rw [v105, v104]
  have hEv : rf_EX nb ib s v := rf_EX_trans hE2 hE (Int.le_refl _) (Int.le_refl _)
  obtain ⟨g2, j1, j2, j3, j4, j5, j6⟩ := rf_AS_head (nb := nb) (ib := ib) (J := (s.1 66 50).toNat) (h := s.1 66 61) (row := row2) (t := t) a1 h1 (by omega) hov (by omega) (by omega) (by rw [a5 111 _ (by omega) (by omega) (by omega)]; exact f3) (by omega) (by rw [(a2.same 100 rfl).2, (a2.same 101 rfl).2, (a2.same 102 rfl).2, (a2.same 103 rfl).2]; exact ⟨e1, e2, e3, e4⟩) (by rw [v104, ev, e5, eaa]; omega) (by omega) (by rw [ev, eam2]; omega) (fun q hq => by
    rw [ev, eam2] at hq
    rw [v105, h105b q hq]
    obtain ⟨T, t1, t2⟩ := hg2 q hq
    exact Or.inl ⟨T, hEv.pt hm2.1 hm2.2 t1, (hEv.vb (Int.le_refl _) _ _).mpr t2⟩) (fun p q hp hq => by
    rw [ev, eam2] at hp hq
    rw [v105, h105b p hp, h105b q hq]
    exact hg3 p q hp hq) (fun i hi => by
    rw [ev, eaa] at hi
    have hi2 : i < n := by omega
    obtain ⟨y1, y2⟩ := hkg i hi2
    refine ⟨kg i, by rw [ev, eam2]; exact y1, by rw [vrv, hrv i hi2, v105, h105b _ y1]; exact y2, fun T hT => ?_⟩
    obtain ⟨T1, t1, t2⟩ := hf2 (kf i) (hkf2 i hi2)
    obtain ⟨T2, t3, t4⟩ := hg2 (kg i) y1
    rw [← y2] at t4
    have q1 := rf_vb_inj t2 t4
    subst q1
    have q2 := hE2.ptR (m := s.1 66 61) (by omega) (by omega) ((hpt i T1 hi2).mpr (hE.pt hm.1 hm.2 t1)) hT
    have q3 := rf_py_inj q2 ((hpt i T1 hi2).mpr (hE.pt hm.1 hm.2 t1))
    rw [q3]
    exact hEv.pt hm2.1 hm2.2 t3) (fun i i' hi hi' => by
    rw [ev] at hi hi'
    rw [vrv, vrv]
    exact hinj i i' hi hi') (by rw [eJ]; exact hA2)
  have hE3 : rf_EX nb ib v t := rf_AS_EX hm2.1 hov hA2
  have ea : (rf_aa u m).toNat = (s.2.1 108 m.toNat).toNat := by rw [eam]; rfl
  have ea2 : (rf_aa v m2).toNat = (s.2.1 108 m2.toNat).toNat := by rw [ev, eam2]; rfl
  rw [ea] at h5 h6
  rw [ea2] at j5 j6
  refine ⟨rf_EX_trans hE3 hEv (Int.le_refl _) (Int.le_refl _), g2, j1, rf_EG_trans hEv j2 (rf_EG_trans hE h2 k2), by omega, by omega, ?_⟩
  rintro ⟨q1, q2, q3, q4, q5, q6⟩
  obtain ⟨z1, z2, z3, z4, z5, z6⟩ := hA2
  have y50 := z3 50 rfl
  have y56 := z3 56 rfl
  have y61 := z3 61 rfl
  have y64 := z3 64 rfl
  exact ⟨by omega, by omega, by omega, by omega, by omega, by omega⟩
