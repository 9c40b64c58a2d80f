/-! ===== the reference: load ===== -/
/-- the state with what was loaded alone -/
def rf_l0 (s : sx_S) : sx_S := (sx_uf (sx_uf (sx_uf s.1 66 50 (s.1 66 75)) 66 56 (s.1 66 76)) 66 58 (s.1 66 77), s.2)
theorem rf_l0_f {s : sx_S} : (rf_l0 s).1 66 50 = s.1 66 75 ∧ (rf_l0 s).1 66 56 = s.1 66 76 ∧ (rf_l0 s).1 66 58 = s.1 66 77 ∧ (∀ k, k ≠ 50 → k ≠ 56 → k ≠ 58 → (rf_l0 s).1 66 k = s.1 66 k) ∧ (rf_l0 s).2 = s.2 := by
  refine ⟨?_, ?_, ?_, fun k h1 h2 h3 => ?_, rfl⟩
  · unfold rf_l0
    dsimp only
    rw [sx_uf_if, if_neg (by decide), sx_uf_if, if_neg (by decide), sx_uf_if, if_pos ⟨rfl, rfl⟩]
  · unfold rf_l0
    dsimp only
    rw [sx_uf_if, if_neg (by decide), sx_uf_if, if_pos ⟨rfl, rfl⟩]
  · unfold rf_l0
    dsimp only
    rw [sx_uf_if, if_pos ⟨rfl, rfl⟩]
  · unfold rf_l0
    dsimp only
    rw [sx_uf_if, if_neg (fun c => h3 c.2), sx_uf_if, if_neg (fun c => h2 c.2), sx_uf_if, if_neg (fun c => h1 c.2)]
def rf_LD (s : sx_S) : Prop := (rf_ES (rf_l0 s) ∧ rf_CK (rf_l0 s)) ∧ (0 ≤ s.1 66 75 ∧ s.1 66 75 ≤ 22000) ∧ (0 ≤ s.1 66 76 ∧ s.1 66 76 ≤ 11000) ∧ (1 ≤ s.1 66 77 ∧ s.1 66 77 ≤ 11000) ∧ (2 ≤ s.1 66 9 ∧ s.1 66 9 ≤ 6000) ∧ (s.1 66 75 ≤ s.1 66 50 ∧ s.1 66 76 ≤ s.1 66 56 ∧ s.1 66 77 ≤ s.1 66 58) ∧ s.1 66 34 = 0
/-- the desk's own cells -/
def rf_dk (s t : sx_S) : Prop := ∀ p, p < 66 → t.1 p = s.1 p ∧ t.2.1 p = s.2.1 p
theorem rf_dk_refl (s : sx_S) : rf_dk s s := fun _ _ => ⟨rfl, rfl⟩
theorem rf_dk_trans {s t u : sx_S} (h2 : rf_dk t u) (h1 : rf_dk s t) : rf_dk s u := fun p hp => ⟨((h2 p hp).1).trans (h1 p hp).1, ((h2 p hp).2).trans (h1 p hp).2⟩
theorem rf_dk_F {V : List (Nat × Nat)} {s t : sx_S} (h : cx_F V s t) (hV : cx_le V [(66, 124)] = true) : rf_dk s t := fun p hp => (h p).1 (cx_le_ok hV (fun q hq => by
  have : q = (66, 124) := by simpa using hq
  rw [this]
  exact Or.inl hp))
theorem rf_dk_uf {s t : sx_S} {k : Nat} {v : Int} (h : rf_dk s t) : rf_dk s (sx_uf t.1 66 k v, t.2) := fun p hp => ⟨by
  show sx_uf t.1 66 k v p = _
  rw [sx_fv_ne (by omega)]
  exact (h p hp).1, (h p hp).2⟩
theorem rf_dk_FQ {s t : sx_S} (h : rf_FQ s t) : rf_dk s t := fun p hp => h.1 p (fun q hq => by
  simp only [List.mem_cons, List.not_mem_nil, or_false] at hq
  rcases hq with rfl | rfl | rfl | rfl | rfl <;> exact Or.inl (by omega))
theorem rf_CK_Q {s t : sx_S} (h : rf_FQ s t) (h34 : t.1 66 34 = 0) (g : rf_CK s) : rf_CK t := by
  have up : ∀ z, rf_t5 s z → rf_t5 t z := fun z ⟨y, h1, h2⟩ => ⟨y, rf_is_up h1 h.2.2.1.1, h2⟩
  intro q
  obtain ⟨c1, c2, c3⟩ := g q
  obtain ⟨⟨b1, b2, b3, b4, b5⟩, b6, b7, b8, b9, b10⟩ := h.2.2.1.2 q
  refine ⟨fun z => ?_, fun z => ?_, fun z => by omega⟩
  · rw [b9]
    exact up _ (c1 (by omega))
  · rw [b10]
    exact up _ (c2 (by omega))
/-- unknowns that are more -/
def rf_an (p : Nat → Int → Prop) : rf_N → Prop × Prop
  | .leaf => (True, True)
  | .inner j k _ f x => ((k.1 = 3 → p j k.2) ∧ (k.1 = 0 → (rf_an p f).1) ∧ (k.1 ≠ 0 → (rf_an p f).2), ((k.1 = 3 → p j k.2) ∧ (k.1 = 0 → (rf_an p f).1) ∧ (k.1 ≠ 0 → (rf_an p f).2)) ∧ (rf_an p x).2)
theorem rf_an_gt {H : Nat → Int → Int → rf_T → Prop} {P : Nat → rf_T → Prop} {p : Nat → Int → Prop} (hp : ∀ j r u, H j 3 r u → p j r) : ∀ {n : rf_N}, (∀ x, (rf_gt H P n).1 x → (rf_an p n).1) ∧ (∀ x y, (rf_gt H P n).2 x y → (rf_an p n).2)
  | .leaf => ⟨fun _ _ => trivial, fun _ _ _ => trivial⟩
  | .inner j k u f x => by
    have hf := rf_an_gt hp (P := P) (n := f)
    have hx := rf_an_gt hp (P := P) (n := x)
    have h1 : ∀ t, (rf_gt H P (.inner j k u f x)).1 t → (rf_an p (.inner j k u f x)).1 := by
      rintro t (⟨e, A, B, _, _, q3⟩ | ⟨e, w, q1, q2, _⟩)
      · exact ⟨fun q => by omega, fun _ => hf.1 _ q3, fun q => absurd e q⟩
      · refine ⟨fun q => ?_, fun q => absurd q e, fun _ => hf.2 _ _ q2⟩
        rw [q] at q1
        exact hp _ _ _ q1
    refine ⟨h1, ?_⟩
    rintro w t ⟨A, B, _, q2, q3⟩
    exact ⟨h1 A q2, hx.2 _ _ q3⟩
theorem rf_sc_an {G G' : Nat → Int → List Int → Prop} : ∀ {n : rf_N}, ((rf_an (fun j r => ∀ Γ, G j r Γ → G' j r Γ) n).1 → ∀ Γ, (rf_sc G n).1 Γ → (rf_sc G' n).1 Γ) ∧ ((rf_an (fun j r => ∀ Γ, G j r Γ → G' j r Γ) n).2 → ∀ Γ, (rf_sc G n).2 Γ → (rf_sc G' n).2 Γ)
  | .leaf => ⟨fun _ _ h => h, fun _ _ h => h⟩
  | .inner j k u f x => by
    have hf := rf_sc_an (G := G) (G' := G') (n := f)
    have hx := rf_sc_an (G := G) (G' := G') (n := x)
    have h1 : (rf_an (fun j r => ∀ Γ, G j r Γ → G' j r Γ) (.inner j k u f x)).1 → ∀ Γ, (rf_sc G (.inner j k u f x)).1 Γ → (rf_sc G' (.inner j k u f x)).1 Γ := by
      rintro ⟨a, b, c⟩ Γ (⟨q1, q2⟩ | ⟨q1, q2, q3, q4⟩)
      · exact Or.inl ⟨q1, hf.1 (b q1) _ q2⟩
      · exact Or.inr ⟨q1, q2, fun z => a z Γ (q3 z), hf.2 (c q1) _ q4⟩
    exact ⟨h1, fun ⟨a, b⟩ Γ ⟨q1, q2⟩ => ⟨h1 a Γ q1, hx.2 b Γ q2⟩⟩
/-- a declaration more -/
theorem rf_ES_D {s t : sx_S} (hF : cx_F [(66, 66), (95, 97), (123, 123)] s t) (hf : rf_f [40, 41, 42, 45] s t) (h42 : s.1 66 42 ≤ t.1 66 42 ∧ s.1 66 45 ≤ t.1 66 45) (ha : rf_ag 96 96 (s.1 66 42) s t) (hb : rf_ag 123 123 (s.1 66 45) s t) (h : rf_ES s) : rf_ES t := by
  have tis : ∀ x z, rf_is t x z ↔ rf_is s x z := fun x z => by
    unfold rf_is
    rw [(hF.same 72 rfl).2, (hF.same 73 rfl).2, hf 9 rfl]
  have tvt : ∀ v x, rf_vt t v x ↔ rf_vt s v x := fun v x => by
    unfold rf_vt
    rw [tis, (hF.same 106 rfl).2, hf 58 rfl]
  have trp : ∀ {y x : rf_T} {i e : Int}, rf_rp s y x i e → rf_rp t y x i e := by
    intro y x
    induction x with
    | leaf => exact fun h => h
    | inner n u v A B _ ih =>
      rintro i e (q | ⟨q1, q2⟩)
      · exact Or.inl q
      · exact Or.inr ⟨by rw [tvt, (hF.same 105 rfl).2]; exact q1, ih q2⟩
  have hH : ∀ j k r u, rf_H s j k r u → rf_H t j k r u := by
    rintro j k r u (⟨q1, q2⟩ | ⟨q1, q2, q3⟩ | ⟨q1, q2⟩ | ⟨q1, q2, e, x, ⟨q3, q4, q5, q6⟩, q7, q8⟩)
    · exact Or.inl ⟨q1, (tvt _ _).mpr q2⟩
    · refine Or.inr (Or.inl ⟨q1, by omega, ?_⟩)
      rw [ha 96 _ (by omega) (by omega) (by omega), tis]
      exact q3
    · exact Or.inr (Or.inr (Or.inl ⟨q1, (tvt _ _).mpr q2⟩))
    · refine Or.inr (Or.inr (Or.inr ⟨q1, q2, e, x, ⟨by omega, q4, by rw [(hF.same 104 rfl).2]; exact q5, by rw [hf 56 rfl]; exact q6⟩, ?_, ?_⟩))
      · rw [hb 123 _ (by omega) (by omega) (by omega), tis]
        exact q7
      · rw [(hF.same 104 rfl).2]
        exact trp q8
  have hEQ : ∀ z x, rf_EQ s z x → rf_EQ t z x := by
    rintro z x ⟨N, n1, n2, n3, n4⟩
    refine ⟨N, ?_, (rf_gt_mono (fun j _ => ⟨hH j, fun _ q => q⟩)).1 x n2, ?_, n4⟩
    · unfold rf_no at n1 ⊢
      rw [(hF.same 100 rfl).2, (hF.same 101 rfl).2, (hF.same 102 rfl).2, (hF.same 103 rfl).2, hf 50 rfl]
      exact n1
    · refine rf_sc_an.1 ((rf_an_gt (H := rf_H s) (P := rf_P) (p := fun j r => ∀ Γ, rf_G s j r Γ → rf_G t j r Γ) (fun j r u q => ?_)).1 x n2) [] n3
      rcases q with ⟨c, _⟩ | ⟨c, _⟩ | ⟨c, _⟩ | ⟨_, _, e, x', ⟨q3, _⟩, _⟩
      · omega
      · omega
      · omega
      · rintro Γ ⟨x2, g1, g2, g3, g4⟩
        refine ⟨x2, ?_, ?_, ?_, ?_⟩
        · rw [hb 123 _ (by omega) (by omega) (by omega), tis]
          exact g1
        · rw [(hF.same 104 rfl).2, hf 56 rfl]
          exact g2
        · rw [(hF.same 104 rfl).2, rf_rl_eq (s := s) (t := t) (fun q _ => by rw [(hF.same 105 rfl).2])]
          exact g3
        · rw [(hF.same 104 rfl).2, rf_rl_eq (s := s) (t := t) (fun q _ => by rw [(hF.same 105 rfl).2])]
          exact g4
  intro e he
  rw [hf 47 rfl] at he
  obtain ⟨x, x1, x2⟩ := h e he
  rw [(hF.same 98 rfl).2, (hF.same 99 rfl).2]
  exact ⟨x, hEQ _ _ x1, hEQ _ _ x2⟩
