/-! ===== the reference: terms are read ===== -/
theorem rf_nk_uf {F : Nat → Nat → Int} {B : (Nat → Nat → Int) × (Nat → Nat → Int) × Nat} {p k : Nat} {v z w : Int} (h : rf_nk (F, B) z w) : rf_nk (sx_uf F p k v, B) z w := h
theorem rf_nk_ua {F A : Nat → Nat → Int} {B : (Nat → Nat → Int) × Nat} {p k : Nat} {v z w : Int} (hp : (Nat.beq p 74 || Nat.beq p 80 || Nat.beq p 81 || Nat.beq p 84) = false) (h : rf_nk (F, A, B) z w) : rf_nk (F, sx_ua A p k v, B) z w := by
  have e : ∀ q, (Nat.beq p q) = false → sx_ua A p k v q = A q := fun q hq => sx_ua_ne (fun c => by rw [c, Nat.beq_refl] at hq; cases hq)
  simp only [Bool.or_eq_false_iff] at hp
  intro t
  obtain ⟨h1, h2, h3, h4⟩ := h t
  dsimp only
  rw [e 74 hp.1.1.1, e 80 hp.1.1.2, e 81 hp.1.2, e 84 hp.2]
  exact ⟨h1, h2, h3, h4⟩
theorem rf_nk_F {V : List (Nat × Nat)} {s t : sx_S} {z k : Int} (hF : cx_F V s t) (hV : (cx_outb V 74 && cx_outb V 80 && cx_outb V 81 && cx_outb V 84) = true) (h : rf_nk s z k) : rf_nk t z k := by
  simp only [Bool.and_eq_true] at hV
  intro q
  rw [(hF.same 74 hV.1.1.1).2, (hF.same 80 hV.1.1.2).2, (hF.same 81 hV.1.2).2, (hF.same 84 hV.2).2]
  exact h q
theorem rf_nk2_uf {F : Nat → Nat → Int} {B : (Nat → Nat → Int) × (Nat → Nat → Int) × Nat} {p k : Nat} {v z : Int} (h : rf_nk2 (F, B) z) : rf_nk2 (sx_uf F p k v, B) z := h
theorem rf_nk2_ua {F A : Nat → Nat → Int} {B : (Nat → Nat → Int) × Nat} {p k : Nat} {v z : Int} (hp : Nat.beq p 74 = false) (h : rf_nk2 (F, A, B) z) : rf_nk2 (F, sx_ua A p k v, B) z := by
  intro t
  dsimp only
  rw [sx_ua_ne (fun c => by rw [← c, Nat.beq_refl] at hp; cases hp)]
  exact h t
theorem rf_nk2_F {V : List (Nat × Nat)} {s t : sx_S} {z : Int} (hF : cx_F V s t) (hV : cx_outb V 74 = true) (h : rf_nk2 s z) : rf_nk2 t z := by
  intro q
  rw [(hF.same 74 hV).2]
  exact h q
theorem rf_nk2_nt {m : Int} {s t : sx_S} {z : Int} (hn : rf_nt m s t) (h0 : 0 ≤ z) (hz : z < m) (h : rf_nk2 s z) : rf_nk2 t z := fun q => (hn 74 z.toNat (by omega) (by omega) (by omega)).trans (h q)
theorem rf_nk2_k {s : sx_S} {z : Int} (h : rf_nk s z 2) : rf_nk2 s z := fun q => (h q).1
/-- the state's arrays of what is read, but 77, 79, 82, 83, 84, are the same -/
theorem rf_tr_arr {lo hi h : Int} {s t : sx_S} {z : Int} (e : ∀ p, (p = 72 ∨ p = 73 ∨ p = 74 ∨ p = 75 ∨ p = 76 ∨ p = 78 ∨ p = 80 ∨ p = 81) → t.2.1 p = s.2.1 p) (h12 : t.1 66 12 = s.1 66 12) (h9 : t.1 66 9 = s.1 66 9) (h8 : t.1 66 8 = 0 → s.1 66 8 = 0) (q : rf_tr lo hi h s z) : rf_tr lo hi h t z := by
  obtain ⟨n, h1, h2, h3, h4, h5⟩ := q
  have hD : ∀ j, rf_D s j → rf_D t j := by
    rintro j ⟨x, a, b⟩
    refine ⟨x, ?_, ?_⟩
    · unfold rf_is at a ⊢
      rw [e 72 (by decide), e 73 (by decide), e 76 (by decide), h9]
      exact a
    · rw [e 78 (by decide)]
      exact b
  refine ⟨n, ?_, h2, h3, h4, fun c => ⟨(rf_rw_eq hD).1 (h5 (h8 c)).1, (h5 (h8 c)).2⟩⟩
  unfold rf_rt at h1 ⊢
  rw [e 74 (by decide), e 75 (by decide), e 80 (by decide), e 81 (by decide), h12]
  exact h1
theorem rf_tr_uf {lo hi h : Int} {F : Nat → Nat → Int} {B : (Nat → Nat → Int) × (Nat → Nat → Int) × Nat} {k : Nat} {v z : Int} (hk : (Nat.beq k 8 || Nat.beq k 9 || Nat.beq k 12) = false) (q : rf_tr lo hi h (F, B) z) : rf_tr lo hi h (sx_uf F 66 k v, B) z := by
  have e : ∀ j, Nat.beq k j = false → sx_uf F 66 k v 66 j = F 66 j := fun j hj => by
    rw [sx_uf_if]
    refine if_neg (fun c => ?_)
    rw [c.2, Nat.beq_refl] at hj
    cases hj
  simp only [Bool.or_eq_false_iff] at hk
  exact rf_tr_arr (s := (F, B)) (fun _ _ => rfl) (e 12 hk.2) (e 9 hk.1.2) (fun c => (e 8 hk.1.1).symm.trans c) q
theorem rf_tr_ua {lo hi h : Int} {F A : Nat → Nat → Int} {B : (Nat → Nat → Int) × Nat} {p k : Nat} {v z : Int} (hp : (Nat.beq p 77 || Nat.beq p 79) = true) (q : rf_tr lo hi h (F, A, B) z) : rf_tr lo hi h (F, sx_ua A p k v, B) z := by
  refine rf_tr_arr (s := (F, A, B)) (fun r hr => ?_) rfl rfl id q
  refine sx_ua_ne (fun c => ?_)
  subst c
  rcases hr with rfl | rfl | rfl | rfl | rfl | rfl | rfl | rfl <;> exact absurd hp (by decide)
theorem rf_tr_F {V : List (Nat × Nat)} {W : List Nat} {lo hi h : Int} {s t : sx_S} {z : Int} (hF : cx_F V s t) (hV : (cx_outb V 72 && cx_outb V 73 && cx_outb V 74 && cx_outb V 75 && cx_outb V 76 && cx_outb V 78 && cx_outb V 80 && cx_outb V 81) = true) (hf : rf_f W s t) (hW : (W.contains 9 || W.contains 12) = false) (h8 : t.1 66 8 = 0 → s.1 66 8 = 0) (q : rf_tr lo hi h s z) : rf_tr lo hi h t z := by
  simp only [Bool.and_eq_true] at hV
  simp only [Bool.or_eq_false_iff] at hW
  refine rf_tr_arr (fun r hr => ?_) (hf 12 hW.2) (hf 9 hW.1) h8 q
  rcases hr with rfl | rfl | rfl | rfl | rfl | rfl | rfl | rfl
  · exact (hF.same 72 hV.1.1.1.1.1.1.1).2
  · exact (hF.same 73 hV.1.1.1.1.1.1.2).2
  · exact (hF.same 74 hV.1.1.1.1.1.2).2
  · exact (hF.same 75 hV.1.1.1.1.2).2
  · exact (hF.same 76 hV.1.1.1.2).2
  · exact (hF.same 78 hV.1.1.2).2
  · exact (hF.same 80 hV.1.2).2
  · exact (hF.same 81 hV.2).2
theorem rf_tu_ua {s : sx_S} {F A : Nat → Nat → Int} {B : (Nat → Nat → Int) × Nat} {p k : Nat} {v : Int} (h1 : Nat.beq p 72 = false) (h2 : Nat.beq p 73 = false) (h : rf_tu s (F, A, B)) : rf_tu s (F, sx_ua A p k v, B) := by
  intro j
  have q := h j
  dsimp only at q ⊢
  rw [sx_ua_ne (fun c => by rw [← c, Nat.beq_refl] at h1; cases h1), sx_ua_ne (fun c => by rw [← c, Nat.beq_refl] at h2; cases h2)]
  exact q
def rf_d1 (s : sx_S) (z : Int) : Prop := ∃ x : rf_T, rf_is s x (s.2.1 76 z.toNat) ∧ s.1 66 33 = (rf_at x : Int)
/-- the type is stored -/
theorem rf_d1_mk {r : sx_S} {F A : Nat → Nat → Int} {B : (Nat → Nat → Int) × Nat} {z w : Int} (h : rf_pt r (F, A, B) w) (h8 : F 66 8 = 0) (h33 : r.1 66 33 = 0) : rf_d1 (F, sx_ua A 76 z.toNat w, B) z := by
  obtain ⟨x, h1, h2⟩ := h
  refine ⟨x, ?_, ?_⟩
  · unfold rf_is at h1 ⊢
    dsimp only at h1 ⊢
    rw [sx_ua_ne (by decide), sx_ua_ne (by decide), sx_ua_same]
    dsimp only
    rw [if_pos rfl]
    exact h1
  · have := h2 h8
    dsimp only at this ⊢
    omega
theorem rf_D_mk {F A : Nat → Nat → Int} {B : (Nat → Nat → Int) × Nat} {z w : Int} (h : rf_d1 (F, A, B) z) (hw : w = F 66 33) : rf_D (F, sx_ua A 78 z.toNat w, B) z.toNat := by
  obtain ⟨x, h1, h2⟩ := h
  refine ⟨x, ?_, ?_⟩
  · unfold rf_is at h1 ⊢
    dsimp only at h1 ⊢
    rw [sx_ua_ne (by decide), sx_ua_ne (by decide), sx_ua_ne (by decide)]
    exact h1
  · dsimp only at h2 ⊢
    rw [sx_ua_same]
    dsimp only
    rw [if_pos rfl, hw]
    exact h2
theorem rf_D_F {V : List (Nat × Nat)} {W : List Nat} {s t : sx_S} {j : Nat} (hF : cx_F V s t) (hV : (cx_outb V 72 && cx_outb V 73 && cx_outb V 76 && cx_outb V 78) = true) (hf : rf_f W s t) (hW : W.contains 9 = false) (h : rf_D s j) : rf_D t j := by
  simp only [Bool.and_eq_true] at hV
  obtain ⟨x, h1, h2⟩ := h
  refine ⟨x, ?_, ?_⟩
  · unfold rf_is at h1 ⊢
    rw [(hF.same 72 hV.1.1.1).2, (hF.same 73 hV.1.1.2).2, (hF.same 76 hV.1.2).2, hf 9 hW]
    exact h1
  · rw [(hF.same 78 hV.2).2]
    exact h2
theorem rf_ap_mk {q h mid : Int} {s : sx_S} {a b : Int} (h1 : rf_tr q mid h s a) (h2 : rf_tr mid (s.1 66 12) (h - 1) s b) (h3 : mid ≤ s.1 66 12) : rf_ap q h s a b := ⟨mid, h1, h2, h3⟩
theorem rf_ap_F {V : List (Nat × Nat)} {W : List Nat} {q h : Int} {s t : sx_S} {a b : Int} (hF : cx_F V s t) (hV : (cx_outb V 72 && cx_outb V 73 && cx_outb V 74 && cx_outb V 75 && cx_outb V 76 && cx_outb V 78 && cx_outb V 80 && cx_outb V 81) = true) (hf : rf_f W s t) (hW : (W.contains 9 || W.contains 12) = false) (h8 : t.1 66 8 = 0 → s.1 66 8 = 0) (z : rf_ap q h s a b) : rf_ap q h t a b := by
  obtain ⟨mid, h1, h2, h3⟩ := z
  have e : t.1 66 12 = s.1 66 12 := by
    simp only [Bool.or_eq_false_iff] at hW
    exact hf 12 hW.2
  refine ⟨mid, rf_tr_F hF hV hf hW h8 h1, ?_, by rw [e]; exact h3⟩
  rw [e]
  exact rf_tr_F hF hV hf hW h8 h2
theorem rf_ap_79 {q h : Int} {F A : Nat → Nat → Int} {B : (Nat → Nat → Int) × Nat} {a b : Int} {k : Nat} {v : Int} (z : rf_ap q h (F, A, B) a b) : rf_ap q h (F, sx_ua A 79 k v, B) a b := by
  obtain ⟨mid, h1, h2, h3⟩ := z
  exact ⟨mid, rf_tr_ua rfl h1, rf_tr_ua rfl h2, h3⟩
theorem rf_ap_1 {q h : Int} {s : sx_S} {a b : Int} (z : rf_ap q h s a b) : rf_tr q (s.1 66 12) h s a := by
  obtain ⟨mid, h1, h2, h3⟩ := z
  exact rf_tr_wk h1 (Int.le_refl _) h3 (Int.le_refl _)
