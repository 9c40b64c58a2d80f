/-! ===== the reference: what build makes of what was read ===== -/
/-- RP: the type at a node that was read, RW: the row of an unknown's node, i0: what is made in it is not below -/
def vq_bm (RP : Nat → rf_T → Prop) (RW : Nat → Int → List Int → Prop) (i0 : Int) : rf_N → (rf_N → Prop) × (rf_N → Prop)
  | .leaf => (fun _ => False, fun F => F = .leaf)
  | .inner j k _ f x => (fun N => ((k.1 = 0 ∧ ∃ (i : Nat) (F : rf_N), N = rf_n i 0 k.2 F .leaf ∧ (vq_bm RP RW i0 f).1 F) ∨ ((k.1 = 1 ∨ k.1 = 2) ∧ ∃ (F : rf_N) (y : rf_T), RP j y ∧ (vq_bm RP RW i0 f).2 F ∧ vq_z y k.1 k.2 F i0 N) ∨ (k.1 = 3 ∧ ∃ (vs ws : List Int) (y : rf_T) (i : Nat), RP j y ∧ (rf_lf2 f).2 vs ∧ RW i k.2 ws ∧ vq_y y k.2 vs i0 i ws N)), fun G => ∃ W X : rf_N, (vx_sg W ∧ G = vx_sb W X) ∧ ((k.1 = 0 ∧ ∃ (i : Nat) (F : rf_N), W = rf_n i 0 k.2 F .leaf ∧ (vq_bm RP RW i0 f).1 F) ∨ ((k.1 = 1 ∨ k.1 = 2) ∧ ∃ (F : rf_N) (y : rf_T), RP j y ∧ (vq_bm RP RW i0 f).2 F ∧ vq_z y k.1 k.2 F i0 W) ∨ (k.1 = 3 ∧ ∃ (vs ws : List Int) (y : rf_T) (i : Nat), RP j y ∧ (rf_lf2 f).2 vs ∧ RW i k.2 ws ∧ vq_y y k.2 vs i0 i ws W)) ∧ (vq_bm RP RW i0 x).2 X)
theorem vq_bm_c {RP : Nat → rf_T → Prop} {RW : Nat → Int → List Int → Prop} {i0 : Int} {j : Nat} {k : Int × Int} {u : Unit} {f x G : rf_N} : (vq_bm RP RW i0 (.inner j k u f x)).2 G ↔ ∃ W X : rf_N, (vx_sg W ∧ G = vx_sb W X) ∧ (vq_bm RP RW i0 (.inner j k u f x)).1 W ∧ (vq_bm RP RW i0 x).2 X := Iff.rfl
theorem vq_z_le {x : rf_T} {k h : Int} {f0 n : rf_N} {i0 i1 : Int} (h01 : i0 ≤ i1) (h' : vq_z x k h f0 i1 n) : vq_z x k h f0 i0 n := by
  obtain ⟨us, h1, h2, h3, h4⟩ := h'
  exact ⟨us, h1, h2, fun c hc => by have := h3 c hc; omega, h4⟩
theorem vq_y_le {x : rf_T} {h : Int} {vs ws : List Int} {j : Nat} {n : rf_N} {i0 i1 : Int} (h01 : i0 ≤ i1) (h' : vq_y x h vs i1 j ws n) : vq_y x h vs i0 j ws n := by
  obtain ⟨us, h1, h2, h3, h4⟩ := h'
  exact ⟨us, h1, h2, fun c hc => by have := h3 c hc; omega, h4⟩
theorem vq_bm_up {RP RP' : Nat → rf_T → Prop} {RW RW' : Nat → Int → List Int → Prop} {i0 i1 : Int} (hP : ∀ j y, RP j y → RP' j y) (hW : ∀ i m ws, RW i m ws → RW' i m ws) (hi : i1 ≤ i0) : ∀ {m : rf_N}, (∀ N, (vq_bm RP RW i0 m).1 N → (vq_bm RP' RW' i1 m).1 N) ∧ (∀ F, (vq_bm RP RW i0 m).2 F → (vq_bm RP' RW' i1 m).2 F)
  | .leaf => ⟨fun _ h => h, fun _ h => h⟩
  | .inner j k u f x => by
    have hf := vq_bm_up hP hW hi (m := f)
    have hx := vq_bm_up hP hW hi (m := x)
    have key : ∀ N, (vq_bm RP RW i0 (.inner j k u f x)).1 N → (vq_bm RP' RW' i1 (.inner j k u f x)).1 N := by
      rintro N (⟨k0, i, F, h1, h2⟩ | ⟨k2, F, y, h1, h2, h3⟩ | ⟨k3, vs, ws, y, i, h1, h2, h3, h4⟩)
      · exact Or.inl ⟨k0, i, F, h1, hf.1 F h2⟩
      · exact Or.inr (Or.inl ⟨k2, F, y, hP j y h1, hf.2 F h2, vq_z_le hi h3⟩)
      · exact Or.inr (Or.inr ⟨k3, vs, ws, y, i, hP j y h1, h2, hW i _ ws h3, vq_y_le hi h4⟩)
    refine ⟨key, fun F h => ?_⟩
    obtain ⟨W, X, h1, h2, h3⟩ := vq_bm_c.mp h
    exact vq_bm_c.mpr ⟨W, X, h1, key W h2, hx.2 X h3⟩
theorem vq_bm_1 {RP : Nat → rf_T → Prop} {RW : Nat → Int → List Int → Prop} {i0 : Int} {j : Nat} {k : Int × Int} {u u' : Unit} {f x x' N : rf_N} (h : (vq_bm RP RW i0 (.inner j k u f x)).1 N) : (vq_bm RP RW i0 (.inner j k u' f x')).1 N := h
theorem vq_bm_s {RP : Nat → rf_T → Prop} {RW : Nat → Int → List Int → Prop} {i0 : Int} {j : Nat} {k : Int × Int} {u : Unit} {f N : rf_N} (hN : vx_sg N) (h : (vq_bm RP RW i0 (.inner j k u f .leaf)).1 N) : ∀ {m F : rf_N}, (vq_bm RP RW i0 m).2 F → (vq_bm RP RW i0 (rf_snoc m (.inner j k u f .leaf))).2 (rf_snoc F N)
  | .leaf, F, g => by
    have e : F = .leaf := g
    rw [e]
    refine vq_bm_c.mpr ⟨N, .leaf, ⟨hN, ?_⟩, h, rfl⟩
    obtain ⟨a, b, c, d, rfl⟩ := hN
    rfl
  | .inner j' k' u' f' x', F, g => by
    obtain ⟨W, X, ⟨s1, s2⟩, g2, g3⟩ := vq_bm_c.mp g
    have ih := vq_bm_s hN h g3
    refine vq_bm_c.mpr ⟨W, rf_snoc X N, ⟨s1, ?_⟩, g2, ih⟩
    rw [s2]
    obtain ⟨a, b, c, d, rfl⟩ := s1
    rfl
/-- a row in memory -/
def vq_RW (t : sx_S) (i : Nat) (m : Int) (ws : List Int) : Prop := ((i : Int) < t.1 66 50 ∧ (0 ≤ t.2.1 104 i ∧ t.2.1 104 i + (ws.length : Int) ≤ t.1 66 56) ∧ rf_rl t (t.2.1 104 i) ws.length = ws) ∧ ∃ x, rf_is t x (t.2.1 123 m.toNat) ∧ (rf_args x).length = ws.length
theorem vq_RW_up {s t : sx_S} (h : rf_xu s t) {i : Nat} {m : Int} {ws : List Int} (g : vq_RW s i m ws) : vq_RW t i m ws := by
  obtain ⟨⟨g1, ⟨g2, g3⟩, g4⟩, x, g5, g6⟩ := g
  have e0 := (h.2 0).1
  have e := (h.2 i).2.2.2.1 g1
  refine ⟨⟨by omega, ⟨by omega, by omega⟩, ?_⟩, x, ?_, g6⟩
  · rw [e, ← g4]
    rw [rf_rl_len]
    exact rf_rl_eq (fun q hq => (h.2 _).2.2.1 (by omega))
  · rw [(h.2 m.toNat).2.2.2.2.2]
    exact rf_is_up g5 h.1
def vq_PB (m : rf_N) (Γ : List Int) (i0 : Int) (t : sx_S) (N : rf_N) : Prop := rf_PB m Γ t N ∧ (vq_bm (rf_RP t) (vq_RW t) i0 m).1 N
theorem vq_RP_xu {s t : sx_S} (h : rf_xu s t) (h84 : t.2.1 84 = s.2.1 84) : ∀ j y, rf_RP s j y → rf_RP t j y := fun j y q => by
  unfold rf_RP at q ⊢
  rw [h84]
  exact rf_is_up q h.1
theorem vq_bm_xu {s t : sx_S} {i0 i1 : Int} (h : rf_xu s t) (h84 : t.2.1 84 = s.2.1 84) (hi : i1 ≤ i0) {m : rf_N} : (∀ N, (vq_bm (rf_RP s) (vq_RW s) i0 m).1 N → (vq_bm (rf_RP t) (vq_RW t) i1 m).1 N) ∧ (∀ F, (vq_bm (rf_RP s) (vq_RW s) i0 m).2 F → (vq_bm (rf_RP t) (vq_RW t) i1 m).2 F) := vq_bm_up (vq_RP_xu h h84) (fun _ _ _ q => vq_RW_up h q) hi
theorem vq_nx_sg {n : rf_N} (h : rf_nx n) (hn : n ≠ .leaf) : vx_sg n := by
  cases n with
  | leaf => exact absurd rfl hn
  | inner j k u f x =>
    have e : x = .leaf := h
    subst e
    exact ⟨j, k.1, k.2, f, rfl⟩
