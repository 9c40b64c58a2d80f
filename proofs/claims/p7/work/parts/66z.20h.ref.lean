/-! ===== the reference: parts of what is read ===== -/
theorem rf_nt_ua' {m : Int} {s : sx_S} {F A : Nat → Nat → Int} {B : (Nat → Nat → Int) × Nat} {p k : Nat} {v : Int} (hk : m ≤ (k : Int)) (h : rf_nt m s (F, A, B)) : rf_nt m s (F, sx_ua A p k v, B) := by
  intro q j h1 h2 h3
  show sx_ua A p k v q j = _
  rw [sx_ua_if]
  split
  · rw [if_neg (by omega)]
    exact h q j h1 h2 h3
  · exact h q j h1 h2 h3
theorem rf_rw_snoc {s : sx_S} {p : rf_N} : ∀ {n : rf_N}, (rf_rw s n).2 → (rf_rw s p).2 → (rf_rw s (rf_snoc n p)).2
  | .leaf, _, h => h
  | .inner _ _ _ _ _, h, g => ⟨h.1, rf_rw_snoc h.2 g⟩
theorem rf_rw_12 {s : sx_S} : ∀ {n : rf_N}, rf_nx n → (rf_rw s n).1 → (rf_rw s n).2
  | .leaf, _, h => h.elim
  | .inner _ _ _ _ _, hx, h => ⟨h, by
    have e : _ = Std.DTreeMap.Internal.Impl.leaf := hx
    rw [e]
    trivial⟩
theorem rf_rw_eq {s t : sx_S} (hD : ∀ j, rf_D s j → rf_D t j) : ∀ {n : rf_N}, ((rf_rw s n).1 → (rf_rw t n).1) ∧ ((rf_rw s n).2 → (rf_rw t n).2)
  | .leaf => ⟨id, id⟩
  | .inner j k v f x => by
    have hf := rf_rw_eq hD (n := f)
    have hx := rf_rw_eq hD (n := x)
    have h1 : (rf_rw s (.inner j k v f x)).1 → (rf_rw t (.inner j k v f x)).1 := by
      rintro (⟨a, b, c⟩ | ⟨a, b⟩)
      · exact Or.inl ⟨a, hD _ b, hf.1 c⟩
      · exact Or.inr ⟨a, hf.2 b⟩
    exact ⟨h1, fun q => ⟨h1 q.1, hx.2 q.2⟩⟩
theorem rf_ht_snoc (p : rf_N) : ∀ n : rf_N, (rf_ht (rf_snoc n p)).2 = max (rf_ht n).2 (rf_ht p).2
  | .leaf => (Nat.zero_max _).symm
  | .inner j k _ f x => by
    have := rf_ht_snoc p x
    show max _ (rf_ht (rf_snoc x p)).2 = max (max _ (rf_ht x).2) _
    rw [this, Nat.max_assoc]
theorem rf_ht_12 : ∀ {n : rf_N}, rf_nx n → (rf_ht n).2 = (rf_ht n).1
  | .leaf, _ => rfl
  | .inner _ _ _ _ _, hx => by
    have e : _ = Std.DTreeMap.Internal.Impl.leaf := hx
    rw [e]
    exact Nat.max_zero _
theorem rf_D_arr {s t : sx_S} (h1 : t.1 = s.1) {p : Nat} {l : Nat} {v : Int} (h2 : t.2.1 = sx_ua s.2.1 p l v) (hp : p = 80 ∨ p = 81) (j : Nat) (h : rf_D s j) : rf_D t j := by
  have q : ∀ p', p' ≠ 80 → p' ≠ 81 → t.2.1 p' = s.2.1 p' := fun p' a b => by
    rw [h2]
    rcases hp with rfl | rfl
    · exact sx_ua_ne a
    · exact sx_ua_ne b
  obtain ⟨x, h3, h4⟩ := h
  refine ⟨x, ?_, ?_⟩
  · unfold rf_is at h3 ⊢
    rw [q 72 (by decide) (by decide), q 73 (by decide) (by decide), q 76 (by decide) (by decide), h1]
    exact h3
  · rw [q 78 (by decide) (by decide)]
    exact h4
def rf_ap (q h : Int) (s : sx_S) (b0 b1 : Int) : Prop := ∃ mid, rf_tr q mid h s b0 ∧ rf_tr mid (s.1 66 12) (h - 1) s b1 ∧ mid ≤ s.1 66 12

def rf_nk2 (s : sx_S) (z : Int) : Prop := True → s.2.1 74 z.toNat = 2

theorem c_r_addA {sL : Nat} {sx : Nat → Int32} (hsL : sL ≤ 3072) (d : Nat) (hd : 2 ≤ d) (q h : Int) : ∀ (a0 a1 : Int) (s : sx_S) (K : Int → sx_S → Prop), cx_I s → (0 ≤ a0 ∧ a0 ≤ 599) → (0 ≤ a1 ∧ a1 ≤ 599) → (s.1 66 8 = 0) → (rf_nk2 s a0) → (rf_ap q h s a0 a1) → (∀ (z : Int) (t : sx_S), cx_I t → cx_F [(80, 81)] s t → (rf_tr q (t.1 66 12) h t a0) → (rf_nt q s t) → (rf_nk2 t a0) → (rf_f [] s t) → (t.1 66 7 = s.1 66 7 ∧ t.1 66 8 = s.1 66 8 ∧ t.1 66 9 = s.1 66 9 ∧ t.1 66 12 = s.1 66 12 ∧ t.1 66 33 = s.1 66 33) → K z t) → sx_C sL sx d 162 [.inr (.inl 66), .inl a0, .inl a1] s K := by
  intro a0 a1 s K hI p0 p1 p2 p3 p4 hK
  obtain ⟨mid, ⟨n, h1, h2, h3, h4, h5⟩, ⟨tp, g1, g2, g3, g4, g5⟩, hm⟩ := p4
  obtain ⟨f, x, rfl, e0, e1, hf, hx⟩ := rf_nd_cons h1 (by omega)
  have hxl : x = .leaf := h4
  subst hxl
  have hk : s.2.1 74 a0.toNat = 2 := p3 trivial
  have hfi : ∀ i ∈ rf_idx f, q ≤ (i : Int) := fun i hi => (h3 i (List.mem_cons_of_mem _ (List.mem_append_left _ hi))).1
  have hq0 : q ≤ (a0.toNat : Int) := (h3 a0.toNat List.mem_cons_self).1
  have key : ∀ t : sx_S, t.1 = s.1 → ((f = .leaf ∧ t.2.1 = sx_ua s.2.1 80 a0.toNat a1) ∨ (f ≠ .leaf ∧ t.2.1 = sx_ua s.2.1 81 (rf_last f 0) a1)) → rf_tr q (t.1 66 12) h t a0 := by
    intro t ht1 ht2
    obtain ⟨k1, k2, k3, k4⟩ := rf_add_tr (lo := q) (mid := mid) (hi := s.1 66 12) (by rw [ht1]) h1 h2 h3 g1 g2 g3 hm ht2
    have hD : ∀ j, rf_D s j → rf_D t j := by
      rcases ht2 with ⟨_, ht2⟩ | ⟨_, ht2⟩
      · exact fun j => rf_D_arr ht1 ht2 (Or.inl rfl) j
      · exact fun j => rf_D_arr ht1 ht2 (Or.inr rfl) j
    refine ⟨_, k1, k2, by rw [ht1]; exact k3, rfl, fun _ => ⟨Or.inr ⟨hk, ?_⟩, ?_⟩⟩
    · refine rf_rw_snoc ?_ ?_
      · rcases (h5 p2).1 with ⟨a, _⟩ | ⟨_, a⟩
        · exact absurd (hk.symm.trans a) (by decide)
        · exact (rf_rw_eq hD).2 a
      · exact rf_rw_12 g4 ((rf_rw_eq hD).1 (g5 p2).1)
    · have a := (h5 p2).2
      have b := (g5 p2).2
      have e2 : (rf_ht (rf_n a0.toNat (s.2.1 74 a0.toNat) (s.2.1 75 a0.toNat) f .leaf)).1 = 1 + (rf_ht f).2 := if_neg (by show ¬ s.2.1 74 a0.toNat = 0; omega)
      have e3 : (rf_ht (rf_n a0.toNat (s.2.1 74 a0.toNat) (s.2.1 75 a0.toNat) (rf_snoc f tp) .leaf)).1 = 1 + (rf_ht (rf_snoc f tp)).2 := if_neg (by show ¬ s.2.1 74 a0.toNat = 0; omega)
      rw [e2] at a
      show (((rf_ht (rf_n a0.toNat (s.2.1 74 a0.toNat) (s.2.1 75 a0.toNat) (rf_snoc f tp) .leaf)).1 : Nat) : Int) ≤ h
      rw [e3, rf_ht_snoc, rf_ht_12 g4]
      omega
  refine c_r_add hsL d hd a0 a1 f s K hI p0 ⟨by omega, by omega⟩ hf (fun hl => hK 0 _ (cx_I_ua rfl rfl hI (by omega) (by omega)) (cx_F_ua rfl (cx_F_refl _ _)) (key _ rfl (Or.inl ⟨hl, rfl⟩)) (rf_nt_ua' hq0 (rf_nt_refl _ _)) (fun _ => ?_) (fun _ _ => rfl) ⟨rfl, rfl, rfl, rfl, rfl⟩) (fun l hl e => hK 0 _ (cx_I_ua rfl rfl hI (by omega) (by omega)) (cx_F_ua rfl (cx_F_refl _ _)) (key _ rfl (Or.inr ⟨hl, by rw [e]⟩)) (rf_nt_ua' (hfi l (by rw [e]; exact rf_last_mem f 0 hl)) (rf_nt_refl _ _)) (fun _ => ?_) (fun _ _ => rfl) ⟨rfl, rfl, rfl, rfl, rfl⟩)
  · dsimp only
    rw [sx_ua_ne (by decide)]
    exact hk
  · dsimp only
    rw [sx_ua_ne (by decide)]
    exact hk

theorem c_r_addL {sL : Nat} {sx : Nat → Int32} (hsL : sL ≤ 3072) (d : Nat) (hd : 2 ≤ d) (q h : Int) : ∀ (a0 a1 : Int) (s : sx_S) (K : Int → sx_S → Prop), cx_I s → (0 ≤ a0 ∧ a0 ≤ 599) → (-1 ≤ a1 ∧ a1 ≤ 599) → (rf_nk s a0 0) → (s.1 66 8 = 0 → rf_D s a0.toNat) → (rf_tr (a0 + 1) (s.1 66 12) (h - 1) s a1) → (s.1 66 8 = 0 → 0 ≤ a1) → (a0 < s.1 66 12) → (q ≤ a0) → (∀ (z : Int) (t : sx_S), cx_I t → cx_F [(80, 81)] s t → (rf_tr q (t.1 66 12) h t a0) → (rf_nt q s t) → (rf_f [] s t) → (t.1 66 7 = s.1 66 7 ∧ t.1 66 8 = s.1 66 8 ∧ t.1 66 9 = s.1 66 9 ∧ t.1 66 12 = s.1 66 12 ∧ t.1 66 33 = s.1 66 33) → K z t) → sx_C sL sx d 162 [.inr (.inl 66), .inl a0, .inl a1] s K := by
  intro a0 a1 s K hI p0 p1 p2 p3 p4 p5 p6 p7 hK
  obtain ⟨tp, g1, g2, g3, g4, g5⟩ := p4
  obtain ⟨k1, k2, k3, k4⟩ := p2 trivial
  have hR : rf_rt s (rf_n a0.toNat 0 (s.2.1 75 a0.toNat) .leaf .leaf) a0 := ⟨⟨by omega, by omega⟩, ⟨k1, rfl⟩, k2, k3⟩
  have key : ∀ t : sx_S, t.1 = s.1 → t.2.1 = sx_ua s.2.1 80 a0.toNat a1 → rf_tr q (t.1 66 12) h t a0 := by
    intro t ht1 ht2
    obtain ⟨m1, m2, m3, m4⟩ := rf_add_tr (lo := q) (mid := a0 + 1) (hi := s.1 66 12) (f := .leaf) (by rw [ht1]) hR (by simp [rf_idx]) (fun i hi => by simp [rf_idx] at hi; omega) g1 g2 g3 (by omega) (Or.inl ⟨rfl, ht2⟩)
    have hD : ∀ j, rf_D s j → rf_D t j := fun j => rf_D_arr ht1 ht2 (Or.inl rfl) j
    refine ⟨_, m1, m2, by rw [ht1]; exact m3, rfl, fun e => ?_⟩
    rw [ht1] at e
    refine ⟨Or.inl ⟨rfl, hD _ (p3 e), (rf_rw_eq hD).1 (g5 e).1⟩, ?_⟩
    have b := (g5 e).2
    have e3 : (rf_ht (rf_n a0.toNat 0 (s.2.1 75 a0.toNat) tp .leaf)).1 = 1 + (rf_ht tp).1 := by
      show (if ((0 : Int), s.2.1 75 a0.toNat).1 = 0 then 1 + (rf_ht tp).1 else 1 + (rf_ht tp).2) = _
      exact if_pos rfl
    show (((rf_ht (rf_n a0.toNat 0 (s.2.1 75 a0.toNat) tp .leaf)).1 : Nat) : Int) ≤ h
    rw [e3]
    omega
  refine c_r_add hsL d hd a0 a1 .leaf s K hI p0 p1 k2 (fun hl => hK 0 _ (cx_I_ua rfl rfl hI (by omega) (by omega)) (cx_F_ua rfl (cx_F_refl _ _)) (key _ rfl rfl) (rf_nt_ua' (by omega) (rf_nt_refl _ _)) (fun _ _ => rfl) ⟨rfl, rfl, rfl, rfl, rfl⟩) (fun l hl e => absurd rfl hl)
