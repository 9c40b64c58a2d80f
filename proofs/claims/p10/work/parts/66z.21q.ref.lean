/-! ===== the reference: declarations ===== -/
theorem rf_t5_eq {s t : sx_S} (h9 : t.1 66 9 = s.1 66 9) (h72 : t.2.1 72 = s.2.1 72) (h73 : t.2.1 73 = s.2.1 73) {z : Int} (h : rf_t5 s z) : rf_t5 t z := by
  obtain ⟨x, h1, h2⟩ := h
  refine ⟨x, ?_, h2⟩
  unfold rf_is at h1 ⊢
  rw [h9, h72, h73]
  exact h1
theorem rf_CK_eq {s t : sx_S} (hf : t.1 66 9 = s.1 66 9 ∧ t.1 66 34 = s.1 66 34 ∧ t.1 66 42 = s.1 66 42 ∧ t.1 66 45 = s.1 66 45 ∧ t.1 66 58 = s.1 66 58) (ha : ∀ p, (p = 72 ∨ p = 73 ∨ p = 94 ∨ p = 96 ∨ p = 106 ∨ p = 123) → t.2.1 p = s.2.1 p) (h : rf_CK s) : rf_CK t := by
  obtain ⟨f1, f2, f3, f4, f5⟩ := hf
  intro k
  obtain ⟨h1, h2, h3⟩ := h k
  have e := fun {z : Int} (q : rf_t5 s z) => rf_t5_eq f1 (ha 72 (by decide)) (ha 73 (by decide)) q
  rw [f2, f3, f4, f5, ha 94 (by decide), ha 96 (by decide), ha 106 (by decide), ha 123 (by decide)]
  exact ⟨fun q => e (h1 q), fun q => e (h2 q), fun q => ⟨(h3 q).1, e (h3 q).2⟩⟩
theorem rf_CK_F {V : List (Nat × Nat)} {W : List Nat} {s t : sx_S} (hF : cx_F V s t) (hV : (cx_outb V 72 && cx_outb V 73 && cx_outb V 94 && cx_outb V 96 && cx_outb V 106 && cx_outb V 123) = true) (hf : rf_f W s t) (hW : (W.contains 9 || W.contains 34 || W.contains 42 || W.contains 45 || W.contains 58) = false) (h : rf_CK s) : rf_CK t := by
  simp only [Bool.and_eq_true] at hV
  simp only [Bool.or_eq_false_iff] at hW
  refine rf_CK_eq ⟨hf 9 hW.1.1.1.1, hf 34 hW.1.1.1.2, hf 42 hW.1.1.2, hf 45 hW.1.2, hf 58 hW.2⟩ (fun p hp => ?_) h
  rcases hp with rfl | rfl | rfl | rfl | rfl | rfl
  · exact (hF.same 72 hV.1.1.1.1.1).2
  · exact (hF.same 73 hV.1.1.1.1.2).2
  · exact (hF.same 94 hV.1.1.1.2).2
  · exact (hF.same 96 hV.1.1.2).2
  · exact (hF.same 106 hV.1.2).2
  · exact (hF.same 123 hV.2).2
theorem rf_ty1_F {V : List (Nat × Nat)} {W : List Nat} {s t : sx_S} {k : Nat} (hF : cx_F V s t) (hV : (cx_outb V 72 && cx_outb V 73 && cx_outb V 87 && cx_outb V 89) = true) (hf : rf_f W s t) (hW : W.contains 9 = false) (h : rf_ty1 s k) : rf_ty1 t k := by
  simp only [Bool.and_eq_true] at hV
  obtain ⟨x, h1, h2⟩ := h
  refine ⟨x, ?_, ?_⟩
  · unfold rf_is at h1 ⊢
    rw [(hF.same 72 hV.1.1.1).2, (hF.same 73 hV.1.1.2).2, (hF.same 87 hV.1.2).2, hf 9 hW]
    exact h1
  · rw [(hF.same 89 hV.2).2]
    exact h2
theorem rf_ty1_5 {s : sx_S} {k : Nat} (h : rf_ty1 s k) (h5 : s.2.1 89 k ≤ 5) : rf_t5 s (s.2.1 87 k) := by
  obtain ⟨x, h1, h2⟩ := h
  exact ⟨x, h1, by omega⟩
theorem rf_CK_con {s : sx_S} {B : (Nat → Nat → Int) × Nat} {w n1 n2 a v : Int} (h : rf_CK s) (hw : w = s.1 66 42 + 1) (hn : n2 = s.1 66 42) (h0 : 0 ≤ n2) (hv : rf_t5 s v) : rf_CK (sx_uf s.1 66 42 w, sx_ua (sx_ua s.2.1 95 n1.toNat a) 96 n2.toNat v, B) := by
  have e : ∀ q, q ≠ 42 → sx_uf s.1 66 42 w 66 q = s.1 66 q := fun q hq => by
    rw [sx_uf_if]
    exact if_neg (fun c => hq c.2)
  have e42 : sx_uf s.1 66 42 w 66 42 = w := by
    rw [sx_uf_if]
    exact if_pos ⟨rfl, rfl⟩
  have a' : ∀ q, q ≠ 95 → q ≠ 96 → (sx_ua (sx_ua s.2.1 95 n1.toNat a) 96 n2.toNat v) q = s.2.1 q := fun q h1 h2 => by
    rw [sx_ua_ne h2, sx_ua_ne h1]
  have up : ∀ z, rf_t5 s z → rf_t5 (sx_uf s.1 66 42 w, sx_ua (sx_ua s.2.1 95 n1.toNat a) 96 n2.toNat v, B) z := fun z q => rf_t5_eq (e 9 (by decide)) (a' 72 (by decide) (by decide)) (a' 73 (by decide) (by decide)) q
  intro k
  obtain ⟨h1, h2, h3⟩ := h k
  dsimp only
  rw [e42, e 45 (by decide), e 34 (by decide), e 58 (by decide), a' 123 (by decide) (by decide), a' 94 (by decide) (by decide), a' 106 (by decide) (by decide)]
  refine ⟨fun q => ?_, fun q => up _ (h2 q), fun q => ⟨(h3 q).1, up _ (h3 q).2⟩⟩
  rw [sx_ua_same, sx_ua_ne (by decide)]
  dsimp only
  split
  · exact up _ hv
  · exact up _ (h1 (by omega))
theorem rf_CK_met {s : sx_S} {B : (Nat → Nat → Int) × Nat} {w n1 n2 a v : Int} (h : rf_CK s) (hw : w = s.1 66 45 + 1) (hn : n2 = s.1 66 45) (h0 : 0 ≤ n2) (hv : rf_t5 s v) : rf_CK (sx_uf s.1 66 45 w, sx_ua (sx_ua s.2.1 97 n1.toNat a) 123 n2.toNat v, B) := by
  have e : ∀ q, q ≠ 45 → sx_uf s.1 66 45 w 66 q = s.1 66 q := fun q hq => by
    rw [sx_uf_if]
    exact if_neg (fun c => hq c.2)
  have e45 : sx_uf s.1 66 45 w 66 45 = w := by
    rw [sx_uf_if]
    exact if_pos ⟨rfl, rfl⟩
  have a' : ∀ q, q ≠ 97 → q ≠ 123 → (sx_ua (sx_ua s.2.1 97 n1.toNat a) 123 n2.toNat v) q = s.2.1 q := fun q h1 h2 => by
    rw [sx_ua_ne h2, sx_ua_ne h1]
  have up : ∀ z, rf_t5 s z → rf_t5 (sx_uf s.1 66 45 w, sx_ua (sx_ua s.2.1 97 n1.toNat a) 123 n2.toNat v, B) z := fun z q => rf_t5_eq (e 9 (by decide)) (a' 72 (by decide) (by decide)) (a' 73 (by decide) (by decide)) q
  intro k
  obtain ⟨h1, h2, h3⟩ := h k
  dsimp only
  rw [e45, e 42 (by decide), e 34 (by decide), e 58 (by decide), a' 96 (by decide) (by decide), a' 94 (by decide) (by decide), a' 106 (by decide) (by decide)]
  refine ⟨fun q => up _ (h1 q), fun q => ?_, fun q => ⟨(h3 q).1, up _ (h3 q).2⟩⟩
  rw [sx_ua_same, sx_ua_ne (by decide)]
  dsimp only
  split
  · exact up _ hv
  · exact up _ (h2 (by omega))

theorem c_r_wrongF {sL : Nat} {sx : Nat → Int32} (hsL : sL ≤ 3072) (d : Nat) (hd : 2 ≤ d) : ∀ (a0 a1 : Int) (s : sx_S) (K : Int → sx_S → Prop), cx_I s → (1 ≤ a0 ∧ a0 ≤ 6) → (0 ≤ a1 ∧ a1 ≤ 241) → (∀ (z : Int) (t : sx_S), cx_I t → cx_F [(66, 66)] s t → (rf_f [40, 41] s t) → (t.1 66 40 ≠ 0) → ((s.1 66 40 ≠ 0 ∧ t.1 66 40 = s.1 66 40 ∧ t.1 66 41 = s.1 66 41) ∨ (s.1 66 40 = 0 ∧ t.1 66 40 = a0 ∧ t.1 66 41 = a1)) → (t.1 66 42 = s.1 66 42) → (t.1 66 45 = s.1 66 45) → K z t) → sx_C sL sx d 165 [.inr (.inl 66), .inl a0, .inl a1] s K := by
  intro a0 a1 s K hI p0 p1 hK
  exact c_r_wrong hsL d hd _ _ _ _ hI p0 p1 (fun z t hJ hF q0 q1 q2 => hK z t hJ hF q0 q1 q2 (q0 42 rfl) (q0 45 rfl))
