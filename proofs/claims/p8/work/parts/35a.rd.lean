/-! ===== the reference reads types, exactly ===== -/
/-- the reference has the tokens of the text -/
def px_RQ (b : Nat → Int) (n : Int) (s : sx_S) : Prop := ∀ i : Nat, px_lv b n i → s.2.1 69 i = px_rc (px_K b n i)
def px_L (b : Nat → Int) (n : Int) (s : sx_S) : Prop := s.1 66 8 = 0 → px_lv b n (s.1 66 7).toNat
theorem px_RQ_uf {b : Nat → Int} {n : Int} {F : Nat → Nat → Int} {B : (Nat → Nat → Int) × (Nat → Nat → Int) × Nat} {p k : Nat} {v : Int} (h : px_RQ b n (F, B)) : px_RQ b n (sx_uf F p k v, B) := h
theorem px_RQ_ua {b : Nat → Int} {n : Int} {F A : Nat → Nat → Int} {B : (Nat → Nat → Int) × Nat} {p k : Nat} {v : Int} (hp : Nat.beq p 69 = false) (h : px_RQ b n (F, A, B)) : px_RQ b n (F, sx_ua A p k v, B) := by
  intro i hi
  show sx_ua A p k v 69 i = _
  rw [sx_ua_ne (fun z => by rw [← z] at hp; exact absurd hp (by decide))]
  exact h i hi
theorem px_RQ_F {V : List (Nat × Nat)} {b : Nat → Int} {n : Int} {s t : sx_S} (hF : cx_F V s t) (hV : cx_outb V 69 = true) (h : px_RQ b n s) : px_RQ b n t := by
  intro i hi
  rw [(hF.same 69 hV).2]
  exact h i hi
theorem px_RQ_at {b : Nat → Int} {n : Int} {s : sx_S} (h : px_RQ b n s) (hl : px_L b n s) : s.1 66 8 = 0 → s.2.1 69 (s.1 66 7).toNat = px_rc (px_K b n (s.1 66 7).toNat) := fun q => h _ (hl q)
theorem px_L_8 {b : Nat → Int} {n : Int} {s t : sx_S} (h : px_L b n s) (h8 : t.1 66 8 = 0 → s.1 66 8 = 0) (h7 : t.1 66 7 = s.1 66 7) : px_L b n t := fun q => by
  rw [h7]
  exact h (h8 q)
theorem px_L_up {b : Nat → Int} {n : Int} {s t : sx_S} (h : px_L b n s) (h8 : t.1 66 8 = 0 → s.1 66 8 = 0 ∧ px_rc (px_K b n (s.1 66 7).toNat) ≠ 7 ∧ px_rc (px_K b n (s.1 66 7).toNat) ≠ 8) (h7 : t.1 66 8 = 0 → t.1 66 7 = s.1 66 7 + 1) (h0 : 0 ≤ s.1 66 7) : px_L b n t := fun q => by
  obtain ⟨a1, a2, a3⟩ := h8 q
  have hr := px_rc_k (px_K b n (s.1 66 7).toNat)
  refine px_lv_up (h a1) h0 ⟨fun e => a2 (hr.1 e), fun e => a3 (hr.2.1 e)⟩ (h7 q)
/-- which sign it is -/
theorem px_rcx {k : Int} (h : 0 ≤ k ∧ k ≤ 15) : (px_rc k = 1 ↔ k = 2) ∧ (px_rc k = 2 ↔ k = 3) ∧ (px_rc k = 3 ↔ k = 4) ∧ (px_rc k = 4 ↔ k = 5) ∧ (px_rc k = 5 ↔ k = 6) ∧ (px_rc k = 6 ↔ k = 7) ∧ (px_rc k = 9 ↔ k = 8) ∧ (px_rc k = 40 ↔ k = 9) ∧ (px_rc k = 41 ↔ k = 10) ∧ (px_rc k = 92 ↔ k = 11) ∧ (px_rc k = 58 ↔ k = 12) ∧ (px_rc k = 46 ↔ k = 13) ∧ (px_rc k = 59 ↔ k = 14) ∧ (px_rc k = 61 ↔ k = 15) ∧ (px_rc k = 7 ↔ k = 0) := by
  have e : k = 0 ∨ k = 1 ∨ k = 2 ∨ k = 3 ∨ k = 4 ∨ k = 5 ∨ k = 6 ∨ k = 7 ∨ k = 8 ∨ k = 9 ∨ k = 10 ∨ k = 11 ∨ k = 12 ∨ k = 13 ∨ k = 14 ∨ k = 15 := by omega
  rcases e with rfl | rfl | rfl | rfl | rfl | rfl | rfl | rfl | rfl | rfl | rfl | rfl | rfl | rfl | rfl | rfl <;> decide
theorem px_rcK (b : Nat → Int) (n : Int) (i : Nat) : (px_rc (px_K b n i) = 1 ↔ px_K b n i = 2) ∧ (px_rc (px_K b n i) = 2 ↔ px_K b n i = 3) ∧ (px_rc (px_K b n i) = 3 ↔ px_K b n i = 4) ∧ (px_rc (px_K b n i) = 4 ↔ px_K b n i = 5) ∧ (px_rc (px_K b n i) = 5 ↔ px_K b n i = 6) ∧ (px_rc (px_K b n i) = 6 ↔ px_K b n i = 7) ∧ (px_rc (px_K b n i) = 9 ↔ px_K b n i = 8) ∧ (px_rc (px_K b n i) = 40 ↔ px_K b n i = 9) ∧ (px_rc (px_K b n i) = 41 ↔ px_K b n i = 10) ∧ (px_rc (px_K b n i) = 92 ↔ px_K b n i = 11) ∧ (px_rc (px_K b n i) = 58 ↔ px_K b n i = 12) ∧ (px_rc (px_K b n i) = 46 ↔ px_K b n i = 13) ∧ (px_rc (px_K b n i) = 59 ↔ px_K b n i = 14) ∧ (px_rc (px_K b n i) = 61 ↔ px_K b n i = 15) ∧ (px_rc (px_K b n i) = 7 ↔ px_K b n i = 0) := px_rcx (px_K_r b n i)
/-- a type by its number -/
def qx_is (s : sx_S) (x : qx_T) (t : Int) : Prop := qx_ty (s.2.1 72) (s.2.1 73) (s.1 66 9) x t
theorem qx_ty_mono {L R L' R' : Nat → Int} {N N' : Int} (hL : ∀ j : Nat, (j : Int) < N → L' j = L j ∧ R' j = R j) (hN : N ≤ N') : ∀ {x : qx_T} {t : Int}, qx_ty L R N x t → qx_ty L' R' N' x t
  | .leaf, _, h => h
  | .inner j k _ x y, t, h => by
    obtain ⟨h0, h⟩ := h
    refine ⟨h0, ?_⟩
    rcases h with h | ⟨a1, ⟨a2, a3⟩, a4, a5⟩
    · exact Or.inl h
    · refine Or.inr ⟨a1, ⟨a2, by omega⟩, ?_, ?_⟩
      · rw [(hL t.toNat (by omega)).1]
        exact qx_ty_mono hL hN a4
      · rw [(hL t.toNat (by omega)).2]
        exact qx_ty_mono hL hN a5
theorem qx_is_up {s t : sx_S} {x : qx_T} {z : Int} (h : qx_is s x z) (hu : rf_tu s t) : qx_is t x z := qx_ty_mono (fun j => (hu j).2) (hu 0).1 h
/-- a type made of two -/
def qx_ar (s t : sx_S) (a b z : Int) : Prop := ∀ x y, 2 ≤ s.1 66 9 → qx_is s x a → qx_is s y b → qx_is t (qx_a x y) z
theorem qx_ar_mk {s : sx_S} {B : (Nat → Nat → Int) × Nat} {w n m z a b : Int} (h0 : 0 ≤ s.1 66 9) (hw : w = s.1 66 9 + 1) (h1 : n = s.1 66 9) (h2 : m = s.1 66 9) (hz : z = s.1 66 9) : qx_ar s (sx_uf s.1 66 9 w, sx_ua (sx_ua s.2.1 72 n.toNat a) 73 m.toNat b, B) a b z := by
  have hu := rf_tu_mk (s := s) (B := B) (a := a) (b := b) h0 hw h1 h2
  subst h1 h2 hz
  have e9 : sx_uf s.1 66 9 w 66 9 = w := by rw [sx_uf_if, if_pos ⟨rfl, rfl⟩]
  intro x y h2 hx hy
  have e1 : sx_ua (sx_ua s.2.1 72 (s.1 66 9).toNat a) 73 (s.1 66 9).toNat b 72 (s.1 66 9).toNat = a := by
    rw [sx_ua_ne (by decide), sx_ua_same]
    exact if_pos rfl
  have e2 : sx_ua (sx_ua s.2.1 72 (s.1 66 9).toNat a) 73 (s.1 66 9).toNat b 73 (s.1 66 9).toNat = b := by
    rw [sx_ua_same]
    exact if_pos rfl
  refine ⟨rfl, Or.inr ⟨rfl, ⟨h2, ?_⟩, ?_, ?_⟩⟩
  · dsimp only
    rw [e9]
    omega
  · dsimp only
    rw [e1]
    exact qx_is_up hx hu
  · dsimp only
    rw [e2]
    exact qx_is_up hy hu
/-- read: a type that R allows, or none is -/
def px_pm (R : qx_T → Int → Prop) (s t : sx_S) (z : Int) : Prop := True → (t.1 66 8 = 0 → ∃ x, R x (t.1 66 7) ∧ qx_is t x z ∧ t.1 66 33 = s.1 66 33 + (qx_at x : Int)) ∧ (s.1 66 8 = 0 → t.1 66 8 ≠ 0 → ∀ x c, ¬ R x c)
abbrev px_R0 (b : Nat → Int) (n a0 a : Int) : qx_T → Int → Prop := px_TY (px_K b n) (21 - a0).toNat a
def px_R1 (b : Nat → Int) (n a0 a : Int) (x : qx_T) (c : Int) : Prop := a0 ≤ 20 ∧ px_K b n a.toNat = 9 ∧ px_TY (px_K b n) (20 - a0).toNat (a + 1) x c
def px_R2 (b : Nat → Int) (n a0 a : Int) (x : qx_T) (c : Int) : Prop := a0 ≤ 20 ∧ px_AM (px_K b n) (20 - a0).toNat a x c
theorem px_R0_it {b : Nat → Int} {n a0 a c : Int} {x : qx_T} : px_R0 b n a0 a x c ↔ ∃ y e, px_R2 b n a0 a y e ∧ ((px_K b n e.toNat = 8 ∧ ∃ w, px_R0 b n (a0 + 1) (e + 1) w c ∧ x = qx_a y w) ∨ (px_K b n e.toNat ≠ 8 ∧ x = y ∧ c = e)) := by
  by_cases h : a0 ≤ 20
  · unfold px_R0 px_R2
    rw [show (21 - a0).toNat = (20 - a0).toNat + 1 by omega, show (21 - (a0 + 1)).toNat = (20 - a0).toNat by omega, px_TY_it]
    constructor
    · rintro ⟨y, e, h1, h2⟩
      exact ⟨y, e, ⟨h, h1⟩, h2⟩
    · rintro ⟨y, e, h1, h2⟩
      exact ⟨y, e, h1.2, h2⟩
  · constructor
    · intro q
      unfold px_R0 at q
      rw [show (21 - a0).toNat = 0 by omega] at q
      exact q.elim
    · rintro ⟨y, e, h1, _⟩
      exact absurd h1.1 h
theorem px_R2_fun {b : Nat → Int} {n a0 a e e' : Int} {y y' : qx_T} (h : px_R2 b n a0 a y e) (h' : px_R2 b n a0 a y' e') : y = y' ∧ e = e' := px_am_f h.2 h'.2
section PXM
variable {b : Nat → Int} {n a0 : Int} {s t u v : sx_S} {z : Int}
theorem px_pm_o (ha : a0 ≤ 20) (hk : px_rc (px_K b n (s.1 66 7).toNat) = 5) (h7 : u.1 66 7 = s.1 66 7 + 1) (h3 : u.1 66 33 = s.1 66 33 + 1) (h8 : u.1 66 8 = 0) : px_pm (px_R2 b n a0 (s.1 66 7)) s u 0 := fun _ => ⟨fun _ => ⟨qx_o, ⟨ha, Or.inl ⟨(px_rcK b n _).2.2.2.2.1.mp hk, rfl, h7⟩⟩, rfl, h3⟩, fun _ q => absurd h8 q⟩
theorem px_pm_i (ha : a0 ≤ 20) (hk : px_rc (px_K b n (s.1 66 7).toNat) = 6) (h7 : u.1 66 7 = s.1 66 7 + 1) (h3 : u.1 66 33 = s.1 66 33 + 1) (h8 : u.1 66 8 = 0) : px_pm (px_R2 b n a0 (s.1 66 7)) s u 1 := fun _ => ⟨fun _ => ⟨qx_i, ⟨ha, Or.inr (Or.inl ⟨(px_rcK b n _).2.2.2.2.2.1.mp hk, rfl, h7⟩)⟩, ⟨rfl, Or.inl ⟨rfl, rfl, rfl, rfl⟩⟩, h3⟩, fun _ q => absurd h8 q⟩
/-- no bracket -/
theorem px_pm_n (h8 : u.1 66 8 ≠ 0) (hk : s.1 66 8 = 0 → 20 < a0 ∨ px_rc (px_K b n (s.1 66 7).toNat) ≠ 40) : px_pm (px_R1 b n a0 (s.1 66 7)) s u z := fun _ => ⟨fun q => absurd q h8, fun q _ x c h => by
  rcases hk q with q | q
  · have := h.1
    omega
  · exact q ((px_rcK b n _).2.2.2.2.2.2.2.1.mpr h.2.1)⟩
/-- what is in brackets -/
theorem px_pm_p {a1 : Int} (h : px_pm (px_R0 b n a1 (t.1 66 7)) t u z) (e1 : a1 = a0 + 1) (ha : t.1 66 8 = 0) (ha2 : a0 ≤ 20) (hk : px_rc (px_K b n (s.1 66 7).toNat) = 40) (h7 : t.1 66 7 = s.1 66 7 + 1) (h3 : t.1 66 33 = s.1 66 33) : px_pm (px_R1 b n a0 (s.1 66 7)) s u z := fun _ => by
  subst e1
  obtain ⟨h1, h2⟩ := h trivial
  have e : ∀ x c, px_R0 b n (a0 + 1) (t.1 66 7) x c ↔ px_R1 b n a0 (s.1 66 7) x c := fun x c => by
    unfold px_R0 px_R1
    rw [show (21 - (a0 + 1)).toNat = (20 - a0).toNat by omega, h7]
    exact ⟨fun q => ⟨ha2, (px_rcK b n _).2.2.2.2.2.2.2.1.mp hk, q⟩, fun q => q.2.2⟩
  refine ⟨fun q => ?_, fun _ q x c g => h2 ha q x c ((e x c).mpr g)⟩
  obtain ⟨x, a1, a2, a3⟩ := h1 q
  exact ⟨x, (e x _).mp a1, a2, by rw [a3, h3]⟩
/-- the bracket behind it -/
theorem px_pm_c (h : px_pm (px_R1 b n a0 (s.1 66 7)) s t z) (hu : rf_tu t u) (hp : (u.1 66 8 = 0 ∧ t.1 66 8 = 0 ∧ u.1 66 7 = t.1 66 7 + 1) ∨ (u.1 66 8 = 1 ∧ u.1 66 7 = t.1 66 7)) (hk1 : u.1 66 8 = 0 → px_rc (px_K b n (t.1 66 7).toNat) = 41) (hk2 : t.1 66 8 = 0 → u.1 66 8 ≠ 0 → px_rc (px_K b n (t.1 66 7).toNat) ≠ 41) (h3 : u.1 66 33 = t.1 66 33) (h9 : (t.1 66 8 = 0 ∨ t.1 66 8 = 1)) (hs0 : t.1 66 8 = 0 → s.1 66 8 = 0) (hn6 : s.1 66 8 = 0 → a0 ≤ 20 → px_rc (px_K b n (s.1 66 7).toNat) ≠ 5 ∧ px_rc (px_K b n (s.1 66 7).toNat) ≠ 6) : px_pm (px_R2 b n a0 (s.1 66 7)) s u z := fun _ => by
  obtain ⟨h1, h2⟩ := h trivial
  have hR := px_rcK b n (s.1 66 7).toNat
  refine ⟨fun q => ?_, fun q0 q x c g => ?_⟩
  · rcases hp with ⟨_, t8, p7⟩ | ⟨p8, _⟩
    · obtain ⟨x, a1, a2, a3⟩ := h1 t8
      exact ⟨x, ⟨a1.1, Or.inr (Or.inr ⟨a1.2.1, t.1 66 7, a1.2.2, (px_rcK b n _).2.2.2.2.2.2.2.2.1.mp (hk1 q), p7⟩)⟩, qx_is_up a2 hu, h3.trans a3⟩
    · exact absurd (p8.symm.trans q) (by decide)
  · obtain ⟨g1, g2⟩ := g
    obtain ⟨n5, n6⟩ := hn6 q0 g1
    rcases g2 with ⟨p1, _⟩ | ⟨p1, _⟩ | ⟨p1, e, p2, p3, p4⟩
    · exact n5 (hR.2.2.2.2.1.mpr p1)
    · exact n6 (hR.2.2.2.2.2.1.mpr p1)
    · rcases h9 with t8 | t8
      · obtain ⟨x', a1, a2, a3⟩ := h1 t8
        obtain ⟨_, rfl⟩ := px_TY_fun a1.2.2 p2
        exact hk2 t8 q ((px_rcK b n _).2.2.2.2.2.2.2.2.1.mpr p3)
      · exact h2 q0 (by omega) x e ⟨g1, p1, p2⟩
/-- no arrow behind it -/
theorem px_pm_r (h : px_pm (px_R2 b n a0 (s.1 66 7)) s t z) (hk : t.1 66 8 = 0 → px_rc (px_K b n (t.1 66 7).toNat) ≠ 9) : px_pm (px_R0 b n a0 (s.1 66 7)) s t z := fun _ => by
  obtain ⟨h1, h2⟩ := h trivial
  refine ⟨fun q => ?_, fun q0 q x c g => ?_⟩
  · obtain ⟨x, a1, a2, a3⟩ := h1 q
    exact ⟨x, px_R0_it.mpr ⟨x, _, a1, Or.inr ⟨fun e => hk q ((px_rcK b n _).2.2.2.2.2.2.1.mpr e), rfl, rfl⟩⟩, a2, a3⟩
  · obtain ⟨y, e, g1, _⟩ := px_R0_it.mp g
    exact h2 q0 q y e g1
/-- an arrow -/
theorem px_pm_a {r w : sx_S} {z1 z2 a1 : Int} (h3 : qx_ar v w z1 z2 z) (h2 : px_pm (px_R0 b n a1 (r.1 66 7)) r v z2) (e1 : a1 = a0 + 1) (h1 : px_pm (px_R2 b n a0 (s.1 66 7)) s t z1) (hu : rf_tu t v) (h9 : 2 ≤ v.1 66 9) (hk : px_rc (px_K b n (t.1 66 7).toNat) = 9) (t8 : t.1 66 8 = 0) (r8 : r.1 66 8 = 0) (r7 : r.1 66 7 = t.1 66 7 + 1) (r3 : r.1 66 33 = t.1 66 33) (w8 : w.1 66 8 = v.1 66 8) (w7 : w.1 66 7 = v.1 66 7) (w3 : w.1 66 33 = v.1 66 33) : px_pm (px_R0 b n a0 (s.1 66 7)) s w z := fun _ => by
  subst e1
  obtain ⟨a1, a2⟩ := h1 trivial
  obtain ⟨b1, b2⟩ := h2 trivial
  obtain ⟨x, c1, c2, c3⟩ := a1 t8
  refine ⟨fun q => ?_, fun q0 q y c g => ?_⟩
  · obtain ⟨y, d1, d2, d3⟩ := b1 (by omega)
    refine ⟨qx_a x y, px_R0_it.mpr ⟨x, _, c1, Or.inl ⟨(px_rcK b n _).2.2.2.2.2.2.1.mp hk, y, ?_, rfl⟩⟩, h3 x y h9 (qx_is_up c2 hu) d2, ?_⟩
    · rw [w7, ← r7]
      exact d1
    · show _ = _ + ((qx_at x + qx_at y : Nat) : Int)
      push_cast
      omega
  · obtain ⟨x', e, g1, g2⟩ := px_R0_it.mp g
    obtain ⟨rfl, rfl⟩ := px_R2_fun c1 g1
    rcases g2 with ⟨_, w', g3, _⟩ | ⟨g3, _⟩
    · rw [← r7] at g3
      exact b2 r8 (by omega) _ _ g3
    · exact g3 ((px_rcK b n _).2.2.2.2.2.2.1.mp hk)
end PXM

theorem w_q_take {CALL : sx_Ca} {b : Nat → Int} {n : Int} {T : Int} {sL : Nat} {sx : Nat → Int32} {Q : Nat → sx_L → sx_S → Prop} {R : Int → sx_S → Prop} {s : sx_S} {a0 : Int} (hI : cx_I s) (p0 : (-2147483648 ≤ a0 ∧ a0 ≤ 2147483647)) (p1 : (a0 ≠ 7 ∧ a0 ≠ 8)) (p2 : (rf_A T s)) (p3 : (0 ≤ s.1 66 7 ∧ s.1 66 7 ≤ T ∧ 2 ≤ s.1 66 9 ∧ s.1 66 9 ≤ 2 + s.1 66 7)) (p4 : (px_RQ b n s)) (p5 : (px_L b n s)) (hK : ∀ (z : Int) (t : sx_S), cx_I t → cx_F [(66, 66)] s t → (rf_A T t) → (0 ≤ t.1 66 7 ∧ t.1 66 7 ≤ T ∧ 2 ≤ t.1 66 9 ∧ t.1 66 9 ≤ 2 + t.1 66 7) → (rf_f [7, 8] s t) → (z = s.1 66 7) → ((t.1 66 8 = 0 ∧ s.1 66 8 = 0 ∧ t.1 66 7 = s.1 66 7 + 1) ∨ (t.1 66 8 = 1 ∧ t.1 66 7 = s.1 66 7)) → (t.1 66 9 = s.1 66 9 ∧ t.1 66 33 = s.1 66 33 ∧ t.1 66 12 = s.1 66 12 ∧ t.1 66 24 = s.1 66 24) → (px_RQ b n t) → (px_L b n t) → (t.1 66 8 = 0 → px_rc (px_K b n (s.1 66 7).toNat) = a0) → (s.1 66 8 = 0 → t.1 66 8 ≠ 0 → px_rc (px_K b n (s.1 66 7).toNat) ≠ a0) → R z t) : sx_wp true sL sx eX12_take CALL [] Q R 400 0 (sx_argsF 0 [.inr (.inl 66), .inl a0]) [] s := by
  have hT := rf_A_at p2
  have hT1 := rf_A_T p2
  have zzq := px_RQ_at p4 p5
  have hB := hI.fld 66 8 (by decide) rfl
  repeat' (first | (with_reducible intro _) | (refine And.intro ?_ ?_) | (refine hK _ _ ?_ ?_ ?_ ?_ ?_ ?_ ?_ ?_ ?_ ?_ ?_ ?_))
  all_goals (try dsimp only)
  repeat' (first | (with_reducible assumption) | ((with_reducible (change cx_I (sx_uf _ _ _ _, _))); refine cx_I_uf rfl rfl ?_ ?_ ?_) | ((with_reducible (change cx_I (_, sx_ua _ _ _ _, _))); refine cx_I_ua rfl rfl ?_ ?_ ?_) | ((with_reducible (change cx_I (_, sx_ua _ 16 _ _, _))); refine cx_I_ari ?_ ?_ ?_) | ((with_reducible (change cx_I (sx_uf _ 11 6 _, _))); refine cx_I_ufA rfl ?_ ?_ ?_ ?_) | (with_reducible exact cx_F_refl _ _) | ((with_reducible (change cx_F _ _ (sx_uf _ _ _ _, _))); refine cx_F_uf rfl ?_) | ((with_reducible (change cx_F _ _ (_, sx_ua _ _ _ _, _))); refine cx_F_ua rfl ?_) | ((with_reducible (change cx_I (_, sx_cpy _ _ _ _ _ _, _))); refine cx_I_cpy rfl rfl rfl (by decide) ?_) | ((with_reducible (change cx_F _ _ (_, sx_cpy _ _ _ _ _ _, _))); refine cx_F_cpy rfl ?_) | ((with_reducible (change cx_F _ _ _)); refine cx_F_step (by assumption) rfl ?_) | ((with_reducible (change rf_f _ _ (sx_uf _ 66 _ _, _))); refine rf_f_uf rfl ?_) | ((with_reducible (change rf_f _ _ _)); exact (fun _ _ => rfl)) | ((with_reducible (change rf_f _ _ (_, sx_ua _ _ _ _, _))); refine rf_f_ua ?_) | ((with_reducible (change rf_f _ _ _)); assumption) | ((with_reducible (change rf_f _ _ _)); refine rf_f_step (by assumption) rfl ?_) | ((with_reducible (change rf_f _ _ _)); refine rf_f_F (by assumption) rfl ?_) | ((with_reducible (change px_g1 _ _ _ (_, sx_ua _ _ _ _, _))); refine px_g1_ua rfl (by omega) ?_) | ((with_reducible (change px_g1 _ _ _ _)); exact px_g1_refl _ _ _) | ((with_reducible (change px_g1 _ _ _ _)); assumption) | ((with_reducible (change sx_ua _ _ _ _ _ = _)); refine px_a_ua rfl ?_) | ((with_reducible (change px_RT _ _ _ (sx_uf _ _ _ _, _))); refine px_RT_uf ?_) | ((with_reducible (change px_RT _ _ _ (_, sx_ua _ 69 _ _, _))); refine px_RT_up (by assumption) (by assumption) (by assumption) (by assumption) (by assumption) (by omega) (px_bl_st (by assumption) (by omega)) (by omega)) | ((with_reducible (change px_RT _ _ _ (_, sx_ua _ _ _ _, _))); refine px_RT_ua rfl ?_) | ((with_reducible (change px_RT _ _ 0 _)); exact px_RT_0) | ((with_reducible (change px_RT _ _ _ _)); assumption) | ((with_reducible (change px_RT _ _ _ _)); refine px_RT_F (by assumption) rfl rfl rfl ?_) | ((with_reducible (change px_REx _ _ _)); exact px_REx_mk (by assumption) (by assumption) (by omega) (by omega)) | ((with_reducible (change (_ : sx_S).1 _ _ = _)); refine px_f_F (by assumption) rfl ?_) | ((with_reducible (change (_ : sx_S).2.1 _ = _)); refine px_a_F (by assumption) rfl ?_) | ((with_reducible (change sx_uf _ _ _ _ _ _ = _)); refine px_f_uf rfl ?_) | ((with_reducible (change px_DT _ _ _ (sx_uf _ _ _ _, _))); refine px_DT_uf ?_) | ((with_reducible (change px_DT _ _ _ _)); assumption) | ((with_reducible (change px_DT _ _ _ _)); refine px_DT_F (by assumption) rfl rfl rfl ?_) | ((with_reducible (change px_TK _ _ (sx_uf _ _ _ _, _))); refine px_TK_uf rfl ?_) | ((with_reducible (change px_TK _ _ _)); assumption) | ((with_reducible (change px_TK _ _ _)); refine px_TK_F (by assumption) rfl rfl rfl rfl ?_) | ((with_reducible (change rf_A _ (sx_uf _ _ _ _, _))); refine rf_A_uf ?_) | ((with_reducible (change rf_A _ (_, sx_ua _ _ _ _, _))); refine rf_A_ua rfl ?_) | ((with_reducible (change rf_A _ _)); assumption) | ((with_reducible (change rf_A _ _)); refine rf_A_F (by assumption) rfl ?_) | ((with_reducible (change px_RQ _ _ (sx_uf _ _ _ _, _))); refine px_RQ_uf ?_) | ((with_reducible (change px_RQ _ _ (_, sx_ua _ _ _ _, _))); refine px_RQ_ua rfl ?_) | ((with_reducible (change px_RQ _ _ _)); assumption) | ((with_reducible (change px_RQ _ _ _)); refine px_RQ_F (by assumption) rfl ?_) | fail)
  all_goals (first | trivial | omega | (dsimp only at *; omega) | (simp only [sx_uf_if, sx_ua_if, sx_w_t, true_and, and_true, and_self, and_false, false_and, if_true, if_false, reduceIte] at *; omega) | (subst_vars; simp only [sx_uf_if, sx_ua_if, sx_w_t, true_and, and_true, and_self, and_false, false_and, if_true, if_false, reduceIte] at *; omega) | (refine px_L_up (s := s) p5 ?_ ?_ ?_ <;> (first | omega | (dsimp only at *; omega) | (simp only [sx_uf_if, sx_ua_if, sx_w_t, true_and, and_true, and_self, and_false, false_and, if_true, if_false, reduceIte] at *; omega) | (subst_vars; omega) | (subst_vars; simp only [sx_uf_if, sx_ua_if, sx_w_t, true_and, and_true, and_self, and_false, false_and, if_true, if_false, reduceIte] at *; omega))) | (refine px_L_8 (s := s) p5 ?_ ?_ <;> (first | omega | (dsimp only at *; omega) | (simp only [sx_uf_if, sx_ua_if, sx_w_t, true_and, and_true, and_self, and_false, false_and, if_true, if_false, reduceIte] at *; omega) | (subst_vars; omega) | (subst_vars; simp only [sx_uf_if, sx_ua_if, sx_w_t, true_and, and_true, and_self, and_false, false_and, if_true, if_false, reduceIte] at *; omega))) | skip)

theorem c_q_take {sL : Nat} {sx : Nat → Int32} (hsL : sL ≤ 3072) (d : Nat) (hd : 2 ≤ d) (b : Nat → Int) (n : Int) (T : Int) : ∀ (a0 : Int) (s : sx_S) (K : Int → sx_S → Prop), cx_I s → (-2147483648 ≤ a0 ∧ a0 ≤ 2147483647) → (a0 ≠ 7 ∧ a0 ≠ 8) → (rf_A T s) → (0 ≤ s.1 66 7 ∧ s.1 66 7 ≤ T ∧ 2 ≤ s.1 66 9 ∧ s.1 66 9 ≤ 2 + s.1 66 7) → (px_RQ b n s) → (px_L b n s) → (∀ (z : Int) (t : sx_S), cx_I t → cx_F [(66, 66)] s t → (rf_A T t) → (0 ≤ t.1 66 7 ∧ t.1 66 7 ≤ T ∧ 2 ≤ t.1 66 9 ∧ t.1 66 9 ≤ 2 + t.1 66 7) → (rf_f [7, 8] s t) → (z = s.1 66 7) → ((t.1 66 8 = 0 ∧ s.1 66 8 = 0 ∧ t.1 66 7 = s.1 66 7 + 1) ∨ (t.1 66 8 = 1 ∧ t.1 66 7 = s.1 66 7)) → (t.1 66 9 = s.1 66 9 ∧ t.1 66 33 = s.1 66 33 ∧ t.1 66 12 = s.1 66 12 ∧ t.1 66 24 = s.1 66 24) → (px_RQ b n t) → (px_L b n t) → (t.1 66 8 = 0 → px_rc (px_K b n (s.1 66 7).toNat) = a0) → (s.1 66 8 = 0 → t.1 66 8 ≠ 0 → px_rc (px_K b n (s.1 66 7).toNat) ≠ a0) → K z t) → sx_C sL sx d 158 [.inr (.inl 66), .inl a0] s K := by
  intro a0 s K hI p0 p1 p2 p3 p4 p5 hK
  obtain ⟨d, rfl⟩ : ∃ e, d = e + 2 := ⟨d - 2, by omega⟩
  exact sx_meth (wr := true) (n := 400) hsL (e := eX12_take) rfl (w_q_take (Q := fun _ _ _ => False)  hI p0 p1 p2 p3 p4 p5 hK)
