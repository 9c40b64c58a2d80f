/-! ===== the reference: writeVar ===== -/
/-- trees without unknowns -/
theorem rf_am_no {p : Nat → Int → Prop} : ∀ {n : rf_N}, ((∀ z, ¬ (rf_oc n).1 z) → (rf_am p n).1) ∧ ((∀ z, ¬ (rf_oc n).2 z) → (rf_am p n).2)
  | .leaf => ⟨fun _ => trivial, fun _ => trivial⟩
  | .inner j k u f x => by
    have hf := rf_am_no (p := p) (n := f)
    have hx := rf_am_no (p := p) (n := x)
    have h1 : (∀ z, ¬ (rf_oc (.inner j k u f x)).1 z) → (rf_am p (.inner j k u f x)).1 := fun h => ⟨fun q => absurd (Or.inl ⟨q, rfl⟩) (h k.2), fun q => hf.1 (fun z hz => h z (Or.inr (Or.inl ⟨q, hz⟩))), fun q => hf.2 (fun z hz => h z (Or.inr (Or.inr ⟨q, hz⟩)))⟩
    exact ⟨h1, fun h => ⟨h1 (fun z hz => h z (Or.inl hz)), hx.2 (fun z hz => h z (Or.inr hz))⟩⟩
theorem rf_gt_no {H H' : Nat → Int → Int → rf_T → Prop} {P : Nat → rf_T → Prop} (hH : ∀ j k r u, k ≠ 3 → H j k r u → (k = 0 ∨ k = 1 ∨ k = 2) ∧ H' j k r u) : ∀ {n : rf_N}, ((∀ z, ¬ (rf_oc n).1 z) → ∀ t, (rf_gt H P n).1 t → (rf_gt H' P n).1 t) ∧ ((∀ z, ¬ (rf_oc n).2 z) → ∀ u t, (rf_gt H P n).2 u t → (rf_gt H' P n).2 u t)
  | .leaf => ⟨fun _ _ h => h, fun _ _ _ h => h⟩
  | .inner j k u f x => by
    have hf := rf_gt_no hH (P := P) (n := f)
    have hx := rf_gt_no hH (P := P) (n := x)
    have h1 : (∀ z, ¬ (rf_oc (.inner j k u f x)).1 z) → ∀ t, (rf_gt H P (.inner j k u f x)).1 t → (rf_gt H' P (.inner j k u f x)).1 t := by
      rintro h t (⟨e, A, B, q1, q2, q3⟩ | ⟨e, w, q1, q2, q3⟩)
      · exact Or.inl ⟨e, A, B, q1, (hH _ _ _ _ (by omega) q2).2, hf.1 (fun z hz => h z (Or.inr (Or.inl ⟨e, hz⟩))) _ q3⟩
      · have e3 : k.1 ≠ 3 := fun c => h k.2 (Or.inl ⟨c, rfl⟩)
        obtain ⟨e4, e5⟩ := hH _ _ _ _ e3 q1
        exact Or.inr ⟨e, w, e5, hf.2 (fun z hz => h z (Or.inr (Or.inr ⟨by omega, hz⟩))) _ _ q2, q3⟩
    refine ⟨h1, ?_⟩
    rintro h w t ⟨A, B, q1, q2, q3⟩
    exact ⟨A, B, q1, h1 (fun z hz => h z (Or.inl hz)) A q2, hx.2 (fun z hz => h z (Or.inr hz)) _ _ q3⟩
/-- what stands free is in scope -/
theorem rf_sc_fo {G : Nat → Int → List Int → Prop} {W : Nat → Int → Int → Prop} : ∀ {n : rf_N}, ((rf_am (fun j r => ∀ Γ, G j r Γ → ∀ v, W j r v → v ∈ Γ) n).1 → ∀ Γ, (rf_sc G n).1 Γ → ∀ v, (rf_fo W n).1 v → v ∈ Γ) ∧ ((rf_am (fun j r => ∀ Γ, G j r Γ → ∀ v, W j r v → v ∈ Γ) n).2 → ∀ Γ, (rf_sc G n).2 Γ → ∀ v, (rf_fo W n).2 v → v ∈ Γ)
  | .leaf => ⟨fun _ _ _ _ h => h.elim, fun _ _ _ _ h => h.elim⟩
  | .inner j k u f x => by
    have hf := rf_sc_fo (G := G) (W := W) (n := f)
    have hx := rf_sc_fo (G := G) (W := W) (n := x)
    have h1 : (rf_am (fun j r => ∀ Γ, G j r Γ → ∀ v, W j r v → v ∈ Γ) (.inner j k u f x)).1 → ∀ Γ, (rf_sc G (.inner j k u f x)).1 Γ → ∀ v, (rf_fo W (.inner j k u f x)).1 v → v ∈ Γ := by
      rintro ⟨a, b, c⟩ Γ (⟨q1, q2⟩ | ⟨q1, q2, q3, q4⟩) v (⟨e, h⟩ | ⟨e, h0, h⟩ | ⟨e, h⟩)
      · omega
      · rcases List.mem_cons.mp (hf.1 (b e) _ q2 v h) with z | z
        · exact absurd z h0
        · exact z
      · omega
      · exact a e Γ (q3 e) v h
      · exact absurd e q1
      · rcases h with ⟨e2, h⟩ | h
        · rw [h]
          exact q2 e2
        · exact hf.2 (c e) Γ q4 v h
    exact ⟨h1, fun ⟨a, b⟩ Γ ⟨q1, q2⟩ v hv => hv.elim (fun z => h1 a Γ q1 v z) (fun z => hx.2 b Γ q2 v z)⟩
/-- the state in which things are written -/
def rf_WW (aM : Bool) (nb ib : Int) (s : sx_S) (g : rf_Gh) : Prop := (cx_I s ∧ rf_MI nb ib s g ∧ nb ≤ s.1 66 71 ∧ ib ≤ s.1 66 58 ∧ rf_ph s g ≤ 1150) ∧ (0 ≤ s.1 66 70 ∧ s.1 66 70 ≤ 100) ∧ s.1 66 61 ≤ 2900 ∧ (2 ≤ s.1 66 9 ∧ s.1 66 9 ≤ 6000) ∧ (s.1 66 50 ≤ cond aM 59950 59990 ∧ s.1 66 56 ≤ 119900) ∧ rf_OD s
theorem rf_WW_up {aM : Bool} {nb ib : Int} {s t : sx_S} {g : rf_Gh} (h : rf_WW aM nb ib s g) (hI : cx_I t) (hF : rf_WF s t) (hO : rf_OD t) : rf_WW aM nb ib t g := by
  obtain ⟨⟨a1, a2, a3, a4, a5⟩, a6, a7, a8, a9, a10⟩ := h
  obtain ⟨hE, hN⟩ := rf_WF_EX hF
  obtain ⟨⟨b1, b2, b3⟩, _, b8, b9, _⟩ := hF
  refine ⟨⟨hI, rf_NC_MI (rf_EX_le hE a3 a4) hN (Int.le_refl _) (Int.le_refl _) a2, by omega, by omega, by rw [rf_NC_ph hE hN]; exact a5⟩, by rw [b2 70 rfl]; exact a6, by rw [b2 61 rfl]; exact a7, by rw [b2 9 rfl]; exact a8, by rw [b3, b2 56 rfl]; exact a9, hO⟩
def rf_okw (aM : Bool) (A : rf_N) (p q : Nat) : Prop := ((∀ z, ¬ (rf_oc A).1 z) ∧ (rf_wh A).1 ≤ q) ∨ (aM = true ∧ p + 100 ≤ q)
/-- a long form, as a node under names -/
theorem rf_lv_CL {s t : sx_S} {g : rf_Gh} {nb ib v z dp : Int} {T : rf_T} {n : rf_N} (hM : rf_MI nb ib s g) (h70 : 0 ≤ s.1 66 70) (c2 : cx_F [(66, 66), (100, 103), (105, 106)] s t) (c3 : rf_f [50, 56, 58] s t) (hE : rf_EX (s.1 66 71) (s.1 66 58) s t) (n1 : rf_no t n z) (n5 : (rf_gt (rf_H t) rf_P n).1 T) (n6 : (rf_wh n).1 ≤ 9) (n7 : ∀ m, ¬ (rf_oc n).1 m) (n8 : (rf_sc rf_G0 n).1 [v]) (hd : 0 ≤ s.2.1 107 v.toNat ∧ s.2.1 107 v.toNat < dp) : rf_CL t g (fun _ _ => False) n .leaf T [] (1150 + (rf_wh n).1) z (-1) ∧ rf_DI t .leaf (rf_fo (rf_Wd t g.2.2) n).1 dp := by
  have hfo : ∀ w, (rf_fo (rf_Wd t g.2.2) n).1 w → w = v := fun w hw => by
    have := (rf_sc_fo (G := rf_G0) (W := rf_Wd t g.2.2) (n := n)).1 (rf_am_no.1 n7) [v] n8 w hw
    simpa using this
  refine ⟨⟨⟨n1, ?_, ⟨fun _ _ h => h.elim, Or.inr (fun _ _ h => h)⟩, rf_NM_nil (by rw [c3 70 rfl]; exact h70)⟩, ⟨rf_am_no.1 n7, fun a b ha hb _ => by rw [hfo a ha, hfo b hb]⟩, by omega, ⟨List.nodup_nil, fun x hx => absurd hx List.not_mem_nil, by show 1150 + (rf_wh n).1 ≤ 1150 + (rf_wh n).1 + 0; omega⟩⟩, fun a ha => ⟨?_, fun b hb _ => by rw [hfo a ha, hfo b hb]⟩⟩
  · refine (rf_gt_no (fun j k r u h3 h => ?_)).1 n7 T n5
    rcases h with ⟨h1, h2⟩ | ⟨h1, h2, h4⟩ | ⟨h1, h2⟩ | ⟨h1, _⟩
    · exact ⟨Or.inl h1, Or.inl ⟨h1, h2⟩⟩
    · exact ⟨Or.inr (Or.inl h1), Or.inr (Or.inl ⟨h1, h2, h4⟩)⟩
    · exact ⟨Or.inr (Or.inr h1), Or.inr (Or.inr (Or.inl ⟨h1, h2⟩))⟩
    · exact absurd h1 h3
  · rw [hfo a ha]
    show 0 ≤ t.2.1 107 v.toNat ∧ t.2.1 107 v.toNat < dp
    rw [(c2.same 107 rfl).2]
    exact hd
/-- a long form is made -/
theorem rf_lv_EX {s t : sx_S} (c2 : cx_F [(66, 66), (100, 103), (105, 106)] s t) (c3 : rf_f [50, 56, 58] s t) (c4 : rf_xu s t) (c5 : rf_ag 100 103 (s.1 66 50) s t) : rf_EX (s.1 66 71) (s.1 66 58) s t ∧ rf_NC s t := by
  obtain ⟨x1, x2⟩ := c4
  have x3 := (x2 0).1
  have e61 := c3 61 rfl
  have e64 := c3 64 rfl
  have e70 := c3 70 rfl
  refine ⟨⟨⟨⟨c3 9 rfl, (c2.same 72 rfl).2, (c2.same 73 rfl).2, (c2.same 96 rfl).2, c3 42 rfl⟩, by omega, by omega, by omega, by omega, by omega⟩, fun j => ⟨fun hj => ⟨c5 100 j (by omega) (by omega) hj, c5 101 j (by omega) (by omega) hj, c5 102 j (by omega) (by omega) hj, c5 103 j (by omega) (by omega) hj, by rw [(c2.same 104 rfl).2]⟩, fun hj => (x2 j).2.2.1 hj, fun hj => (x2 j).2.1 hj, fun _ => ⟨by rw [(c2.same 108 rfl).2], by rw [(c2.same 109 rfl).2], fun _ => ⟨by rw [(c2.same 111 rfl).2], by rw [(c2.same 112 rfl).2], by rw [(c2.same 113 rfl).2], by rw [(c2.same 114 rfl).2]⟩⟩, fun _ => by rw [(c2.same 110 rfl).2], fun _ => ⟨by rw [(c2.same 115 rfl).2], by rw [(c2.same 116 rfl).2], by rw [(c2.same 117 rfl).2]⟩⟩⟩, e61, fun j _ => by rw [(c2.same 111 rfl).2]⟩
/-- it is forgotten again -/
theorem rf_lv_WF {s t u : sx_S} {a b : Int} (c2 : cx_F [(66, 66), (100, 103), (105, 106)] s t) (c3 : rf_f [50, 56, 58] s t) (c4 : rf_xu s t) (c5 : rf_ag 100 103 (s.1 66 50) s t) (e56 : t.1 66 56 = s.1 66 56) (hF : rf_WF t u) (ha : a = s.1 66 50) (hb : b = s.1 66 58) : rf_WF s (sx_uf (sx_uf u.1 66 50 a) 66 58 b, u.2) := by
  obtain ⟨x1, x2⟩ := c4
  have x3 := (x2 0).1
  obtain ⟨⟨a1, a2, a3⟩, ⟨a4, a5, a6, a7⟩, a8, a9, a10⟩ := hF
  have e71 := c3 71 rfl
  have o : ∀ k, k ≠ 50 → k ≠ 58 → sx_uf (sx_uf u.1 66 50 a) 66 58 b 66 k = u.1 66 k := fun k h1 h2 => by
    rw [sx_uf_if, if_neg (fun c => h2 c.2), sx_uf_if, if_neg (fun c => h1 c.2)]
  have o50 : sx_uf (sx_uf u.1 66 50 a) 66 58 b 66 50 = a := by
    rw [sx_uf_if, if_neg (fun c => absurd c.2 (by decide)), sx_uf_if, if_pos ⟨rfl, rfl⟩]
  have o58 : sx_uf (sx_uf u.1 66 50 a) 66 58 b 66 58 = b := by
    rw [sx_uf_if, if_pos ⟨rfl, rfl⟩]
  refine ⟨⟨cx_F_uf rfl (cx_F_uf rfl (cx_F_step a1 rfl (cx_F_step c2 rfl (cx_F_refl _ _)))), fun k hk => ?_, o50.trans ha⟩, ⟨rf_ag_trans a4 (by omega) c5, fun p j hp hq hj => ?_, fun p j hp hq hj => ?_, ?_⟩, ?_, ?_, fun j hj => a10 j (by rw [(c2.same 118 rfl).2]; exact hj)⟩
  · by_cases k56 : k = 56
    · subst k56
      show sx_uf (sx_uf u.1 66 50 a) 66 58 b 66 56 = _
      rw [o 56 (by decide) (by decide), a2 56 rfl]
      exact e56
    · have k50 : k ≠ 50 := fun c => by
        rw [c] at hk
        exact absurd hk (by decide)
      have k58 : k ≠ 58 := fun c => by
        rw [c] at hk
        exact absurd hk (by decide)
      show sx_uf (sx_uf u.1 66 50 a) 66 58 b 66 k = _
      rw [o k k50 k58, a2 k hk, c3 k ?_]
      simp only [List.contains_eq_mem, List.mem_cons, List.not_mem_nil, or_false, decide_eq_false_iff_not, not_or]
      exact ⟨k50, k56, k58⟩
  · have : p = 105 := by omega
    subst this
    exact (a5 105 j hp hq (by omega)).trans ((x2 j).2.2.1 hj)
  · have h1 : p = 106 ∨ p = 107 := by omega
    refine (a6 p j hp hq (by omega)).trans ?_
    rcases h1 with rfl | rfl
    · exact (x2 j).2.1 hj
    · rw [(c2.same 107 rfl).2]
  · refine rf_ag_trans a7 (by omega) (fun p j hp hq _ => ?_)
    have : p = 115 ∨ p = 116 ∨ p = 117 := by omega
    rcases this with rfl | rfl | rfl <;> rw [(c2.same _ rfl).2]
  · show _ ≤ sx_uf (sx_uf u.1 66 50 a) 66 58 b 66 58
    omega
  · show _ ≤ sx_uf (sx_uf u.1 66 50 a) 66 58 b 66 71
    rw [o 71 (by decide) (by decide)]
    omega
