section
/-! ===== the reference reads trees, exactly ===== -/
theorem rf_nd_fun {K R F X : Nat → Int} {N : Int} : ∀ {t t' : rf_N} {i : Int}, rf_nd K R F X N t i → rf_nd K R F X N t' i → t = t'
  | .leaf, .leaf, _, _, _ => rfl
  | .leaf, .inner _ _ _ _ _, _, h, g => by
    have h1 : _ = (-1 : Int) := h
    have := g.1.1
    omega
  | .inner _ _ _ _ _, .leaf, _, h, g => by
    have h1 : _ = (-1 : Int) := g
    have := h.1.1
    omega
  | .inner j k _ f x, .inner j' k' _ f' x', i, h, g => by
    obtain ⟨⟨a1, _⟩, ⟨a2, a3⟩, a4, a5⟩ := h
    obtain ⟨⟨b1, _⟩, ⟨b2, b3⟩, b4, b5⟩ := g
    have e : j = j' := by omega
    subst e
    rw [rf_nd_fun a4 b4, rf_nd_fun a5 b5, show k = k' from Prod.ext (a2.symm.trans b2) (a3.symm.trans b3)]
/-- a tree of read nodes is this text's tree -/
def px_is (s : sx_S) : rf_N → px_N → Prop
  | .leaf, .leaf => True
  | .inner j k _ f x, .inner g q _ f' x' => (k.2 = q.1 ∧ ((k.1 = 0 ∧ g = 0 ∧ qx_is s q.2 (s.2.1 76 j) ∧ s.2.1 78 j = (qx_at q.2 : Int)) ∨ (k.1 = 2 ∧ g = 1 ∧ q.2 = .leaf))) ∧ px_is s f f' ∧ px_is s x x'
  | .leaf, .inner _ _ _ _ _ => False
  | .inner _ _ _ _ _, .leaf => False
theorem px_is_up {s t : sx_S} (hu : rf_tu s t) : ∀ {n : rf_N} {m : px_N}, (∀ j ∈ rf_idx n, t.2.1 76 j = s.2.1 76 j ∧ t.2.1 78 j = s.2.1 78 j) → px_is s n m → px_is t n m
  | .leaf, .leaf, _, h => h
  | .inner j k _ f x, .inner g q _ f' x', hj, h => by
    obtain ⟨⟨a1, a2⟩, a3, a4⟩ := h
    have h0 := hj j List.mem_cons_self
    refine ⟨⟨a1, ?_⟩, px_is_up hu (fun i hi => hj i (List.mem_cons_of_mem _ (List.mem_append_left _ hi))) a3, px_is_up hu (fun i hi => hj i (List.mem_cons_of_mem _ (List.mem_append_right _ hi))) a4⟩
    rcases a2 with ⟨b1, b2, b3, b4⟩ | b
    · exact Or.inl ⟨b1, b2, by rw [h0.1]; exact qx_is_up b3 hu, by rw [h0.2]; exact b4⟩
    · exact Or.inr b
theorem px_is_snoc {s : sx_S} {p : rf_N} {p' : px_N} (hp : px_is s p p') : ∀ {n : rf_N} {m : px_N}, px_is s n m → px_is s (rf_snoc n p) (px_snoc m p')
  | .leaf, .leaf, _ => hp
  | .inner _ _ _ _ _, .inner _ _ _ _ _, h => ⟨h.1, h.2.1, px_is_snoc hp h.2.2⟩
def px_tr (lo hi : Int) (s : sx_S) (z : Int) (n : px_N) : Prop := ∃ t : rf_N, rf_rt s t z ∧ (rf_idx t).Nodup ∧ (∀ j ∈ rf_idx t, lo ≤ (j : Int) ∧ (j : Int) < hi) ∧ rf_nx t ∧ (s.1 66 8 = 0 → px_is s t n)
theorem px_tr_nt {m lo hi : Int} {s t : sx_S} {z : Int} {n : px_N} (q : px_tr lo hi s z n) (hn : rf_nt m s t) (hu : rf_tu s t) (hm : hi ≤ m) (h12 : s.1 66 12 ≤ t.1 66 12) (h8 : t.1 66 8 = 0 → s.1 66 8 = 0) : px_tr lo hi t z n := by
  obtain ⟨k, h1, h2, h3, h4, h5⟩ := q
  have hj : ∀ j ∈ rf_idx k, (j : Int) < m := fun j hj => by have := (h3 j hj).2; omega
  exact ⟨k, rf_rt_nt hn h12 hj h1, h2, h3, h4, fun e => px_is_up hu (fun j q => ⟨hn 76 j (by omega) (by omega) (hj j q), hn 78 j (by omega) (by omega) (hj j q)⟩) (h5 (h8 e))⟩
theorem px_tr_wk {lo hi lo' hi' : Int} {s : sx_S} {z : Int} {n : px_N} (q : px_tr lo hi s z n) (h1 : lo' ≤ lo) (h2 : hi ≤ hi') : px_tr lo' hi' s z n := by
  obtain ⟨k, a, b, c, d, e⟩ := q
  exact ⟨k, a, b, fun j hj => by have := c j hj; omega, d, e⟩
theorem px_tr_nil {lo hi : Int} {s : sx_S} {n : px_N} (h8 : s.1 66 8 ≠ 0) : px_tr lo hi s (-1) n := ⟨.leaf, rfl, List.nodup_nil, fun j hj => absurd hj List.not_mem_nil, trivial, fun e => absurd e h8⟩
theorem px_tr_new {lo hi a : Int} {s : sx_S} {z : Int} (h0 : 0 ≤ z) (hz : z < s.1 66 12) (hk : rf_nk s z 2) (ht : s.2.1 75 z.toNat = a) (hlo : lo ≤ z) (hhi : z < hi) : px_tr lo hi s z (px_app a .leaf .leaf) := by
  obtain ⟨k1, k2, k3, k4⟩ := hk trivial
  refine ⟨rf_n z.toNat 2 (s.2.1 75 z.toNat) .leaf .leaf, ⟨⟨by omega, by omega⟩, ⟨k1, rfl⟩, k2, k3⟩, by simp [rf_idx], fun j hj => ?_, rfl, fun _ => ⟨⟨ht, Or.inr ⟨rfl, rfl, rfl⟩⟩, trivial, trivial⟩⟩
  simp [rf_idx] at hj
  omega
theorem px_tr_arr {lo hi : Int} {s t : sx_S} {z : Int} {m : px_N} (e : ∀ p, (p = 72 ∨ p = 73 ∨ p = 74 ∨ p = 75 ∨ p = 76 ∨ p = 78 ∨ p = 80 ∨ p = 81) → t.2.1 p = s.2.1 p) (h12 : t.1 66 12 = s.1 66 12) (h9 : t.1 66 9 = s.1 66 9) (h8 : t.1 66 8 = 0 → s.1 66 8 = 0) (q : px_tr lo hi s z m) : px_tr lo hi t z m := by
  obtain ⟨n, h1, h2, h3, h4, h5⟩ := q
  refine ⟨n, ?_, h2, h3, h4, fun c => px_is_up (fun j => ⟨by omega, fun _ => ⟨by rw [e 72 (by decide)], by rw [e 73 (by decide)]⟩⟩) (fun j _ => ⟨by rw [e 76 (by decide)], by rw [e 78 (by decide)]⟩) (h5 (h8 c))⟩
  unfold rf_rt at h1 ⊢
  rw [e 74 (by decide), e 75 (by decide), e 80 (by decide), e 81 (by decide), h12]
  exact h1
theorem px_tr_uf {lo hi : Int} {F : Nat → Nat → Int} {B : (Nat → Nat → Int) × (Nat → Nat → Int) × Nat} {k : Nat} {v z : Int} {m : px_N} (hk : (Nat.beq k 8 || Nat.beq k 9 || Nat.beq k 12) = false) (q : px_tr lo hi (F, B) z m) : px_tr lo hi (sx_uf F 66 k v, B) z m := by
  have e : ∀ j, Nat.beq k j = false → sx_uf F 66 k v 66 j = F 66 j := fun j hj => by
    rw [sx_uf_if]
    refine if_neg (fun c => ?_)
    rw [c.2, Nat.beq_refl] at hj
    cases hj
  simp only [Bool.or_eq_false_iff] at hk
  exact px_tr_arr (s := (F, B)) (fun _ _ => rfl) (e 12 hk.2) (e 9 hk.1.2) (fun c => (e 8 hk.1.1).symm.trans c) q
theorem px_tr_ua {lo hi : Int} {F A : Nat → Nat → Int} {B : (Nat → Nat → Int) × Nat} {p k : Nat} {v z : Int} {m : px_N} (hp : (Nat.beq p 77 || Nat.beq p 79) = true) (q : px_tr lo hi (F, A, B) z m) : px_tr lo hi (F, sx_ua A p k v, B) z m := by
  refine px_tr_arr (s := (F, A, B)) (fun r hr => ?_) rfl rfl id q
  refine sx_ua_ne (fun c => ?_)
  subst c
  rcases hr with rfl | rfl | rfl | rfl | rfl | rfl | rfl | rfl <;> exact absurd hp (by decide)
theorem px_tr_F {V : List (Nat × Nat)} {W : List Nat} {lo hi : Int} {s t : sx_S} {z : Int} {m : px_N} (hF : cx_F V s t) (hV : (cx_outb V 72 && cx_outb V 73 && cx_outb V 74 && cx_outb V 75 && cx_outb V 76 && cx_outb V 78 && cx_outb V 80 && cx_outb V 81) = true) (hf : rf_f W s t) (hW : (W.contains 9 || W.contains 12) = false) (h8 : t.1 66 8 = 0 → s.1 66 8 = 0) (q : px_tr lo hi s z m) : px_tr lo hi t z m := by
  simp only [Bool.and_eq_true] at hV
  simp only [Bool.or_eq_false_iff] at hW
  refine px_tr_arr (fun r hr => ?_) (hf 12 hW.2) (hf 9 hW.1) h8 q
  rcases hr with rfl | rfl | rfl | rfl | rfl | rfl | rfl | rfl
  · exact (hF.same 72 hV.1.1.1.1.1.1.1).2
  · exact (hF.same 73 hV.1.1.1.1.1.1.2).2
  · exact (hF.same 74 hV.1.1.1.1.1.2).2
  · exact (hF.same 75 hV.1.1.1.1.2).2
  · exact (hF.same 76 hV.1.1.1.2).2
  · exact (hF.same 78 hV.1.1.2).2
  · exact (hF.same 80 hV.1.2).2
  · exact (hF.same 81 hV.2).2
/-- what adding a part wants and gives -/
def px_aq (q : Int) (s : sx_S) (b0 b1 : Int) : Prop := ∃ mid n0 n1, px_tr q mid s b0 n0 ∧ px_tr mid (s.1 66 12) s b1 n1 ∧ mid ≤ s.1 66 12
def px_AD (q : Int) (s t : sx_S) (b0 b1 : Int) : Prop := ∀ mid a r p, px_tr q mid s b0 (px_app a r .leaf) → px_tr mid (s.1 66 12) s b1 p → mid ≤ s.1 66 12 → px_tr q (t.1 66 12) t b0 (px_app a (px_snoc r p) .leaf)
def px_tq (lo : Int) (s : sx_S) (b1 : Int) : Prop := ∃ p, px_tr lo (s.1 66 12) s b1 p
def px_AL (q : Int) (s t : sx_S) (b0 b1 : Int) : Prop := ∀ p x, (s.1 66 8 = 0 → qx_is s x (s.2.1 76 b0.toNat) ∧ s.2.1 78 b0.toNat = (qx_at x : Int)) → px_tr (b0 + 1) (s.1 66 12) s b1 p → px_tr q (t.1 66 12) t b0 (px_lam (s.2.1 75 b0.toNat) x p .leaf)
theorem px_is_arr {s t : sx_S} (h1 : t.1 = s.1) {p : Nat} {l : Nat} {v : Int} (h2 : t.2.1 = sx_ua s.2.1 p l v) (hp : p = 80 ∨ p = 81) {n : rf_N} {m : px_N} (h : px_is s n m) : px_is t n m := by
  have q : ∀ p', p' ≠ 80 → p' ≠ 81 → t.2.1 p' = s.2.1 p' := fun p' a b => by
    rw [h2]
    rcases hp with rfl | rfl
    · exact sx_ua_ne a
    · exact sx_ua_ne b
  exact px_is_up (fun j => ⟨by rw [h1]; omega, fun _ => ⟨by rw [q 72 (by decide) (by decide)], by rw [q 73 (by decide) (by decide)]⟩⟩) (fun j _ => ⟨by rw [q 76 (by decide) (by decide)], by rw [q 78 (by decide) (by decide)]⟩) h

theorem c_q_addA {sL : Nat} {sx : Nat → Int32} (hsL : sL ≤ 3072) (d : Nat) (hd : 2 ≤ d) (q : Int) : ∀ (a0 a1 : Int) (s : sx_S) (K : Int → sx_S → Prop), cx_I s → (0 ≤ a0 ∧ a0 ≤ 599) → (0 ≤ a1 ∧ a1 ≤ 599) → (s.1 66 8 = 0) → (rf_nk2 s a0) → (px_aq q s a0 a1) → (∀ (z : Int) (t : sx_S), cx_I t → cx_F [(80, 81)] s t → (px_AD q s t a0 a1) → (rf_nt q s t) → (rf_nk2 t a0) → (rf_f [] s t) → (t.1 66 7 = s.1 66 7 ∧ t.1 66 8 = s.1 66 8 ∧ t.1 66 9 = s.1 66 9 ∧ t.1 66 12 = s.1 66 12 ∧ t.1 66 33 = s.1 66 33 ∧ t.1 66 24 = s.1 66 24) → K z t) → sx_C sL sx d 162 [.inr (.inl 66), .inl a0, .inl a1] s K := by
  intro a0 a1 s K hI p0 p1 p2 p3 p4 hK
  obtain ⟨mid, n0, n1, ⟨n, h1, h2, h3, h4, h5⟩, ⟨tp, g1, g2, g3, g4, g5⟩, hm⟩ := p4
  obtain ⟨f, x, rfl, e0, e1, hf, hx⟩ := rf_nd_cons h1 (by omega)
  have hxl : x = .leaf := h4
  subst hxl
  have hk : s.2.1 74 a0.toNat = 2 := p3 trivial
  have hfi : ∀ i ∈ rf_idx f, q ≤ (i : Int) := fun i hi => (h3 i (List.mem_cons_of_mem _ (List.mem_append_left _ hi))).1
  have hq0 : q ≤ (a0.toNat : Int) := (h3 a0.toNat List.mem_cons_self).1
  have key : ∀ t : sx_S, t.1 = s.1 → ((f = .leaf ∧ t.2.1 = sx_ua s.2.1 80 a0.toNat a1) ∨ (f ≠ .leaf ∧ t.2.1 = sx_ua s.2.1 81 (rf_last f 0) a1)) → px_AD q s t a0 a1 := by
    intro t ht1 ht2 mid' a r p ⟨n', h1', h2', h3', h4', h5'⟩ ⟨tp', g1', g2', g3', g4', g5'⟩ hm'
    cases rf_nd_fun h1' h1
    cases rf_nd_fun g1' g1
    obtain ⟨k1, k2, k3, k4⟩ := rf_add_tr (lo := q) (mid := mid') (hi := s.1 66 12) (by rw [ht1]) h1 h2 h3' g1 g2 g3' hm' ht2
    have hD : ∀ {n : rf_N} {m : px_N}, px_is s n m → px_is t n m := by
      intro n m h
      rcases ht2 with ⟨_, ht2⟩ | ⟨_, ht2⟩
      · exact px_is_arr ht1 ht2 (Or.inl rfl) h
      · exact px_is_arr ht1 ht2 (Or.inr rfl) h
    refine ⟨_, k1, k2, by rw [ht1]; exact k3, rfl, fun _ => ?_⟩
    obtain ⟨c1, c2, c3⟩ := hD (h5' p2)
    exact ⟨c1, px_is_snoc (hD (g5' p2)) c2, trivial⟩
  refine c_r_add hsL d hd a0 a1 f s K hI p0 ⟨by omega, by omega⟩ hf (fun hl => hK 0 _ (cx_I_ua rfl rfl hI (by omega) (by omega)) (cx_F_ua rfl (cx_F_refl _ _)) (key _ rfl (Or.inl ⟨hl, rfl⟩)) (rf_nt_ua' hq0 (rf_nt_refl _ _)) (fun _ => ?_) (fun _ _ => rfl) ⟨rfl, rfl, rfl, rfl, rfl, rfl⟩) (fun l hl e => hK 0 _ (cx_I_ua rfl rfl hI (by omega) (by omega)) (cx_F_ua rfl (cx_F_refl _ _)) (key _ rfl (Or.inr ⟨hl, by rw [e]⟩)) (rf_nt_ua' (hfi l (by rw [e]; exact rf_last_mem f 0 hl)) (rf_nt_refl _ _)) (fun _ => ?_) (fun _ _ => rfl) ⟨rfl, rfl, rfl, rfl, rfl, rfl⟩)
  · dsimp only
    rw [sx_ua_ne (by decide)]
    exact hk
  · dsimp only
    rw [sx_ua_ne (by decide)]
    exact hk
theorem c_q_addL {sL : Nat} {sx : Nat → Int32} (hsL : sL ≤ 3072) (d : Nat) (hd : 2 ≤ d) (q : Int) : ∀ (a0 a1 : Int) (s : sx_S) (K : Int → sx_S → Prop), cx_I s → (0 ≤ a0 ∧ a0 ≤ 599) → (-1 ≤ a1 ∧ a1 ≤ 599) → (rf_nk s a0 0) → (px_tq (a0 + 1) s a1) → (a0 < s.1 66 12) → (q ≤ a0) → (∀ (z : Int) (t : sx_S), cx_I t → cx_F [(80, 81)] s t → (px_AL q s t a0 a1) → (rf_nt q s t) → (rf_f [] s t) → (t.1 66 7 = s.1 66 7 ∧ t.1 66 8 = s.1 66 8 ∧ t.1 66 9 = s.1 66 9 ∧ t.1 66 12 = s.1 66 12 ∧ t.1 66 33 = s.1 66 33 ∧ t.1 66 24 = s.1 66 24) → K z t) → sx_C sL sx d 162 [.inr (.inl 66), .inl a0, .inl a1] s K := by
  intro a0 a1 s K hI p0 p1 p2 p4 p6 p7 hK
  obtain ⟨k1, k2, k3, k4⟩ := p2 trivial
  have hR : rf_rt s (rf_n a0.toNat 0 (s.2.1 75 a0.toNat) .leaf .leaf) a0 := ⟨⟨by omega, by omega⟩, ⟨k1, rfl⟩, k2, k3⟩
  have key : ∀ t : sx_S, t.1 = s.1 → t.2.1 = sx_ua s.2.1 80 a0.toNat a1 → px_AL q s t a0 a1 := by
    intro t ht1 ht2 p x hx ⟨tp, g1, g2, g3, g4, g5⟩
    obtain ⟨m1, m2, m3, m4⟩ := rf_add_tr (lo := q) (mid := a0 + 1) (hi := s.1 66 12) (f := .leaf) (by rw [ht1]) hR (by simp [rf_idx]) (fun i hi => by simp [rf_idx] at hi; omega) g1 g2 g3 (by omega) (Or.inl ⟨rfl, ht2⟩)
    have hq : ∀ p', p' ≠ 80 → t.2.1 p' = s.2.1 p' := fun p' a => by
      rw [ht2]
      exact sx_ua_ne a
    refine ⟨_, m1, m2, by rw [ht1]; exact m3, rfl, fun e => ?_⟩
    rw [ht1] at e
    obtain ⟨x1, x2⟩ := hx e
    refine ⟨⟨rfl, Or.inl ⟨rfl, rfl, ?_, ?_⟩⟩, px_is_arr ht1 ht2 (Or.inl rfl) (g5 e), trivial⟩
    · unfold qx_is at x1 ⊢
      rw [hq 72 (by decide), hq 73 (by decide), hq 76 (by decide), ht1]
      exact x1
    · rw [hq 78 (by decide)]
      exact x2
  refine c_r_add hsL d hd a0 a1 .leaf s K hI p0 p1 k2 (fun hl => hK 0 _ (cx_I_ua rfl rfl hI (by omega) (by omega)) (cx_F_ua rfl (cx_F_refl _ _)) (key _ rfl rfl) (rf_nt_ua' (by omega) (rf_nt_refl _ _)) (fun _ _ => rfl) ⟨rfl, rfl, rfl, rfl, rfl, rfl⟩) (fun l hl e => absurd rfl hl)

theorem w_q_node {CALL : sx_Ca} {sL : Nat} {sx : Nat → Int32} {Q : Nat → sx_L → sx_S → Prop} {R : Int → sx_S → Prop} {s : sx_S} {a0 a1 : Int} (hI : cx_I s) (p0 : (-2147483648 ≤ a0 ∧ a0 ≤ 2147483647)) (p1 : (0 ≤ a1 ∧ a1 ≤ 241)) (p2 : (s.1 66 12 ≤ 599)) (hK : ∀ (z : Int) (t : sx_S), cx_I t → cx_F [(66, 66), (74, 84)] s t → (z = s.1 66 12) → (t.1 66 12 = s.1 66 12 + 1) → (rf_f [12] s t) → (t.1 66 7 = s.1 66 7 ∧ t.1 66 8 = s.1 66 8 ∧ t.1 66 9 = s.1 66 9 ∧ t.1 66 33 = s.1 66 33 ∧ t.1 66 24 = s.1 66 24) → (rf_nt (s.1 66 12) s t) → (rf_nk t z a0) → (t.2.1 75 z.toNat = a1) → R z t) : sx_wp true sL sx eX12_node CALL [] Q R 400 0 (sx_argsF 0 [.inr (.inl 66), .inl a0, .inl a1]) [] s := by
  repeat' (first | (with_reducible intro _) | (refine And.intro ?_ ?_) | (refine hK _ _ ?_ ?_ ?_ ?_ ?_ ?_ ?_ ?_ ?_))
  all_goals (try dsimp only)
  repeat' (first | (with_reducible assumption) | ((with_reducible (change cx_I (sx_uf _ _ _ _, _))); refine cx_I_uf rfl rfl ?_ ?_ ?_) | ((with_reducible (change cx_I (_, sx_ua _ _ _ _, _))); refine cx_I_ua rfl rfl ?_ ?_ ?_) | ((with_reducible (change cx_I (_, sx_ua _ 16 _ _, _))); refine cx_I_ari ?_ ?_ ?_) | ((with_reducible (change cx_I (sx_uf _ 11 6 _, _))); refine cx_I_ufA rfl ?_ ?_ ?_ ?_) | (with_reducible exact cx_F_refl _ _) | ((with_reducible (change cx_F _ _ (sx_uf _ _ _ _, _))); refine cx_F_uf rfl ?_) | ((with_reducible (change cx_F _ _ (_, sx_ua _ _ _ _, _))); refine cx_F_ua rfl ?_) | ((with_reducible (change cx_I (_, sx_cpy _ _ _ _ _ _, _))); refine cx_I_cpy rfl rfl rfl (by decide) ?_) | ((with_reducible (change cx_F _ _ (_, sx_cpy _ _ _ _ _ _, _))); refine cx_F_cpy rfl ?_) | ((with_reducible (change cx_F _ _ _)); refine cx_F_step (by assumption) rfl ?_) | ((with_reducible (change rf_f _ _ (sx_uf _ 66 _ _, _))); refine rf_f_uf rfl ?_) | ((with_reducible (change rf_f _ _ _)); exact (fun _ _ => rfl)) | ((with_reducible (change rf_f _ _ (_, sx_ua _ _ _ _, _))); refine rf_f_ua ?_) | ((with_reducible (change rf_f _ _ _)); assumption) | ((with_reducible (change rf_f _ _ _)); refine rf_f_step (by assumption) rfl ?_) | ((with_reducible (change rf_f _ _ _)); refine rf_f_F (by assumption) rfl ?_) | ((with_reducible (change px_g1 _ _ _ (_, sx_ua _ _ _ _, _))); refine px_g1_ua rfl (by omega) ?_) | ((with_reducible (change px_g1 _ _ _ _)); exact px_g1_refl _ _ _) | ((with_reducible (change px_g1 _ _ _ _)); assumption) | ((with_reducible (change sx_ua _ _ _ _ _ = _)); refine px_a_ua rfl ?_) | ((with_reducible (change px_RT _ _ _ (sx_uf _ _ _ _, _))); refine px_RT_uf ?_) | ((with_reducible (change px_RT _ _ _ (_, sx_ua _ 69 _ _, _))); refine px_RT_up (by assumption) (by assumption) (by assumption) (by assumption) (by assumption) (by omega) (px_bl_st (by assumption) (by omega)) (by omega)) | ((with_reducible (change px_RT _ _ _ (_, sx_ua _ _ _ _, _))); refine px_RT_ua rfl ?_) | ((with_reducible (change px_RT _ _ 0 _)); exact px_RT_0) | ((with_reducible (change px_RT _ _ _ _)); assumption) | ((with_reducible (change px_RT _ _ _ _)); refine px_RT_F (by assumption) rfl rfl rfl ?_) | ((with_reducible (change px_REx _ _ _)); exact px_REx_mk (by assumption) (by assumption) (by omega) (by omega)) | ((with_reducible (change (_ : sx_S).1 _ _ = _)); refine px_f_F (by assumption) rfl ?_) | ((with_reducible (change (_ : sx_S).2.1 _ = _)); refine px_a_F (by assumption) rfl ?_) | ((with_reducible (change sx_uf _ _ _ _ _ _ = _)); refine px_f_uf rfl ?_) | ((with_reducible (change px_DT _ _ _ (sx_uf _ _ _ _, _))); refine px_DT_uf ?_) | ((with_reducible (change px_DT _ _ _ _)); assumption) | ((with_reducible (change px_DT _ _ _ _)); refine px_DT_F (by assumption) rfl rfl rfl ?_) | ((with_reducible (change px_TK _ _ (sx_uf _ _ _ _, _))); refine px_TK_uf rfl ?_) | ((with_reducible (change px_TK _ _ _)); assumption) | ((with_reducible (change px_TK _ _ _)); refine px_TK_F (by assumption) rfl rfl rfl rfl ?_) | ((with_reducible (change rf_A _ (sx_uf _ _ _ _, _))); refine rf_A_uf ?_) | ((with_reducible (change rf_A _ (_, sx_ua _ _ _ _, _))); refine rf_A_ua rfl ?_) | ((with_reducible (change rf_A _ _)); assumption) | ((with_reducible (change rf_A _ _)); refine rf_A_F (by assumption) rfl ?_) | ((with_reducible (change px_RQ _ _ (sx_uf _ _ _ _, _))); refine px_RQ_uf ?_) | ((with_reducible (change px_RQ _ _ (_, sx_ua _ _ _ _, _))); refine px_RQ_ua rfl ?_) | ((with_reducible (change px_RQ _ _ _)); assumption) | ((with_reducible (change px_RQ _ _ _)); refine px_RQ_F (by assumption) rfl ?_) | ((with_reducible (change rf_nt _ _ _)); assumption) | ((with_reducible (change rf_nt _ _ _)); exact rf_nt_refl _ _) | ((with_reducible (change rf_nt _ _ (sx_uf _ _ _ _, _))); refine rf_nt_uf ?_) | ((with_reducible (change rf_nt _ _ (_, sx_ua _ _ _ _, _))); refine rf_nt_ua (by (first | omega | (dsimp only at *; omega))) (by (first | omega | (dsimp only at *; omega))) ?_) | fail)
  repeat' (first | (with_reducible assumption) | ((with_reducible (change cx_I (sx_uf _ _ _ _, _))); refine cx_I_uf rfl rfl ?_ ?_ ?_) | ((with_reducible (change cx_I (_, sx_ua _ _ _ _, _))); refine cx_I_ua rfl rfl ?_ ?_ ?_) | ((with_reducible (change cx_I (_, sx_ua _ 16 _ _, _))); refine cx_I_ari ?_ ?_ ?_) | ((with_reducible (change cx_I (sx_uf _ 11 6 _, _))); refine cx_I_ufA rfl ?_ ?_ ?_ ?_) | (with_reducible exact cx_F_refl _ _) | ((with_reducible (change cx_F _ _ (sx_uf _ _ _ _, _))); refine cx_F_uf rfl ?_) | ((with_reducible (change cx_F _ _ (_, sx_ua _ _ _ _, _))); refine cx_F_ua rfl ?_) | ((with_reducible (change cx_I (_, sx_cpy _ _ _ _ _ _, _))); refine cx_I_cpy rfl rfl rfl (by decide) ?_) | ((with_reducible (change cx_F _ _ (_, sx_cpy _ _ _ _ _ _, _))); refine cx_F_cpy rfl ?_) | ((with_reducible (change cx_F _ _ _)); refine cx_F_step (by assumption) rfl ?_) | ((with_reducible (change rf_f _ _ (sx_uf _ 66 _ _, _))); refine rf_f_uf rfl ?_) | ((with_reducible (change rf_f _ _ _)); exact (fun _ _ => rfl)) | ((with_reducible (change rf_f _ _ (_, sx_ua _ _ _ _, _))); refine rf_f_ua ?_) | ((with_reducible (change rf_f _ _ _)); assumption) | ((with_reducible (change rf_f _ _ _)); refine rf_f_step (by assumption) rfl ?_) | ((with_reducible (change rf_f _ _ _)); refine rf_f_F (by assumption) rfl ?_) | ((with_reducible (change px_g1 _ _ _ (_, sx_ua _ _ _ _, _))); refine px_g1_ua rfl (by omega) ?_) | ((with_reducible (change px_g1 _ _ _ _)); exact px_g1_refl _ _ _) | ((with_reducible (change px_g1 _ _ _ _)); assumption) | ((with_reducible (change sx_ua _ _ _ _ _ = _)); refine px_a_ua rfl ?_) | ((with_reducible (change px_RT _ _ _ (sx_uf _ _ _ _, _))); refine px_RT_uf ?_) | ((with_reducible (change px_RT _ _ _ (_, sx_ua _ 69 _ _, _))); refine px_RT_up (by assumption) (by assumption) (by assumption) (by assumption) (by assumption) (by omega) (px_bl_st (by assumption) (by omega)) (by omega)) | ((with_reducible (change px_RT _ _ _ (_, sx_ua _ _ _ _, _))); refine px_RT_ua rfl ?_) | ((with_reducible (change px_RT _ _ 0 _)); exact px_RT_0) | ((with_reducible (change px_RT _ _ _ _)); assumption) | ((with_reducible (change px_RT _ _ _ _)); refine px_RT_F (by assumption) rfl rfl rfl ?_) | ((with_reducible (change px_REx _ _ _)); exact px_REx_mk (by assumption) (by assumption) (by omega) (by omega)) | ((with_reducible (change (_ : sx_S).1 _ _ = _)); refine px_f_F (by assumption) rfl ?_) | ((with_reducible (change (_ : sx_S).2.1 _ = _)); refine px_a_F (by assumption) rfl ?_) | ((with_reducible (change sx_uf _ _ _ _ _ _ = _)); refine px_f_uf rfl ?_) | ((with_reducible (change px_DT _ _ _ (sx_uf _ _ _ _, _))); refine px_DT_uf ?_) | ((with_reducible (change px_DT _ _ _ _)); assumption) | ((with_reducible (change px_DT _ _ _ _)); refine px_DT_F (by assumption) rfl rfl rfl ?_) | ((with_reducible (change px_TK _ _ (sx_uf _ _ _ _, _))); refine px_TK_uf rfl ?_) | ((with_reducible (change px_TK _ _ _)); assumption) | ((with_reducible (change px_TK _ _ _)); refine px_TK_F (by assumption) rfl rfl rfl rfl ?_) | ((with_reducible (change rf_A _ (sx_uf _ _ _ _, _))); refine rf_A_uf ?_) | ((with_reducible (change rf_A _ (_, sx_ua _ _ _ _, _))); refine rf_A_ua rfl ?_) | ((with_reducible (change rf_A _ _)); assumption) | ((with_reducible (change rf_A _ _)); refine rf_A_F (by assumption) rfl ?_) | ((with_reducible (change px_RQ _ _ (sx_uf _ _ _ _, _))); refine px_RQ_uf ?_) | ((with_reducible (change px_RQ _ _ (_, sx_ua _ _ _ _, _))); refine px_RQ_ua rfl ?_) | ((with_reducible (change px_RQ _ _ _)); assumption) | ((with_reducible (change px_RQ _ _ _)); refine px_RQ_F (by assumption) rfl ?_) | fail)
  all_goals (first | trivial | omega | (dsimp only at *; omega) | (simp only [sx_uf_if, sx_ua_if, sx_w_t, true_and, and_true, and_self, and_false, false_and, if_true, if_false, reduceIte] at *; omega) | (refine rf_nt_ua (by omega) (by omega) ?_; assumption) | (refine rf_nk_mk ?_ ?_ ?_ ?_ <;> (simp only [sx_uf_if, sx_ua_if, sx_w_t, true_and, and_true, and_self, and_false, false_and, if_true, if_false, reduceIte] at *; omega)) | (subst_vars; dsimp only; rw [sx_ua_ne (by decide), sx_ua_ne (by decide), sx_ua_ne (by decide), sx_ua_ne (by decide), sx_ua_same]; exact if_pos (by simp only [sx_uf_if, sx_ua_if, sx_w_t, true_and, and_true, and_self, and_false, false_and, if_true, if_false, reduceIte] at *; omega)) | skip)

theorem c_q_node {sL : Nat} {sx : Nat → Int32} (hsL : sL ≤ 3072) (d : Nat) (hd : 2 ≤ d) : ∀ (a0 a1 : Int) (s : sx_S) (K : Int → sx_S → Prop), cx_I s → (-2147483648 ≤ a0 ∧ a0 ≤ 2147483647) → (0 ≤ a1 ∧ a1 ≤ 241) → (s.1 66 12 ≤ 599) → (∀ (z : Int) (t : sx_S), cx_I t → cx_F [(66, 66), (74, 84)] s t → (z = s.1 66 12) → (t.1 66 12 = s.1 66 12 + 1) → (rf_f [12] s t) → (t.1 66 7 = s.1 66 7 ∧ t.1 66 8 = s.1 66 8 ∧ t.1 66 9 = s.1 66 9 ∧ t.1 66 33 = s.1 66 33 ∧ t.1 66 24 = s.1 66 24) → (rf_nt (s.1 66 12) s t) → (rf_nk t z a0) → (t.2.1 75 z.toNat = a1) → K z t) → sx_C sL sx d 161 [.inr (.inl 66), .inl a0, .inl a1] s K := by
  intro a0 a1 s K hI p0 p1 p2 hK
  obtain ⟨d, rfl⟩ : ∃ e, d = e + 2 := ⟨d - 2, by omega⟩
  exact sx_meth (wr := true) (n := 400) hsL (e := eX12_node) rfl (w_q_node (Q := fun _ _ _ => False)  hI p0 p1 p2 hK)
end
section
/-! ===== the reference reads terms, exactly: what holds on the way ===== -/
def px_tm (b : Nat → Int) (n a0 a : Int) (N : px_N) (c : Int) : Prop := px_TM (px_K b n) (21 - a0).toNat a N c
theorem px_tm_it {b : Nat → Int} {n a0 a c : Int} {N : px_N} (h : a0 ≤ 20) : px_tm b n a0 a N c ↔ (px_K b n (a).toNat = 11 ∧ px_K b n (a + 1).toNat = 2 ∧ px_K b n (a + 1 + 1).toNat = 12 ∧ ∃ x e, px_R0 b n (a0 + 1) (a + 1 + 1 + 1) x e ∧ px_K b n (e).toNat = 13 ∧ ∃ u, px_tm b n (a0 + 1) (e + 1) u c ∧ N = px_lam (a + 1) x u .leaf) ∨ (px_K b n (a).toNat = 2 ∧ ∃ r, px_AR (px_K b n) (px_tm b n (a0 + 1)) (a + 1) .leaf r c ∧ N = px_app a r .leaf) := by
  unfold px_tm px_R0
  rw [show (21 - a0).toNat = (20 - a0).toNat + 1 by omega, show (21 - (a0 + 1)).toNat = (20 - a0).toNat by omega]
  exact px_TM_it
theorem px_tm_fun {b : Nat → Int} {n a0 : Int} : ∀ a t e t' e', px_tm b n a0 a t e → px_tm b n a0 a t' e' → t = t' ∧ e = e' := fun _ _ _ _ _ h1 h2 => px_TM_fun h1 h2
/-- bad: nothing can be read -/
def px_nb (b : Nat → Int) (n a0 : Int) (s t : sx_S) : Prop := s.1 66 8 = 0 → t.1 66 8 ≠ 0 → ∀ N c, ¬ px_tm b n a0 (s.1 66 7) N c
def px_pT (b : Nat → Int) (n a0 q : Int) (s t : sx_S) (z : Int) : Prop := True → (∃ N, px_tr q (t.1 66 12) t z N ∧ (t.1 66 8 = 0 → px_tm b n a0 (s.1 66 7) N (t.1 66 7))) ∧ px_nb b n a0 s t
def px_l1 (b : Nat → Int) (n a0 : Int) (s t : sx_S) (x2 : Int) : Prop := True → (t.1 66 8 = 0 → (px_K b n (s.1 66 7).toNat = 11 ∧ px_K b n (s.1 66 7 + 1).toNat = 2 ∧ px_K b n (s.1 66 7 + 1 + 1).toNat = 12) ∧ t.1 66 7 = s.1 66 7 + 1 + 1 + 1) ∧ px_nb b n a0 s t ∧ t.2.1 75 x2.toNat = s.1 66 7 + 1
def px_l2 (b : Nat → Int) (n a0 : Int) (s t : sx_S) (x2 : Int) : Prop := True → (t.1 66 8 = 0 → (px_K b n (s.1 66 7).toNat = 11 ∧ px_K b n (s.1 66 7 + 1).toNat = 2 ∧ px_K b n (s.1 66 7 + 1 + 1).toNat = 12) ∧ ∃ x, px_R0 b n (a0 + 1) (s.1 66 7 + 1 + 1 + 1) x (t.1 66 7) ∧ qx_is t x (t.2.1 76 x2.toNat) ∧ t.1 66 33 = (qx_at x : Int)) ∧ px_nb b n a0 s t ∧ t.2.1 75 x2.toNat = s.1 66 7 + 1
def px_l3 (b : Nat → Int) (n a0 : Int) (s t : sx_S) (x2 : Int) : Prop := True → (t.1 66 8 = 0 → (px_K b n (s.1 66 7).toNat = 11 ∧ px_K b n (s.1 66 7 + 1).toNat = 2 ∧ px_K b n (s.1 66 7 + 1 + 1).toNat = 12) ∧ ∃ x, px_R0 b n (a0 + 1) (s.1 66 7 + 1 + 1 + 1) x (t.1 66 7) ∧ qx_is t x (t.2.1 76 x2.toNat) ∧ t.2.1 78 x2.toNat = (qx_at x : Int)) ∧ px_nb b n a0 s t ∧ t.2.1 75 x2.toNat = s.1 66 7 + 1
def px_l4 (b : Nat → Int) (n a0 : Int) (s t : sx_S) (x2 : Int) : Prop := True → (t.1 66 8 = 0 → (px_K b n (s.1 66 7).toNat = 11 ∧ px_K b n (s.1 66 7 + 1).toNat = 2 ∧ px_K b n (s.1 66 7 + 1 + 1).toNat = 12) ∧ ∃ x e, px_R0 b n (a0 + 1) (s.1 66 7 + 1 + 1 + 1) x e ∧ px_K b n (e).toNat = 13 ∧ t.1 66 7 = e + 1 ∧ qx_is t x (t.2.1 76 x2.toNat) ∧ t.2.1 78 x2.toNat = (qx_at x : Int)) ∧ px_nb b n a0 s t ∧ t.2.1 75 x2.toNat = s.1 66 7 + 1
def px_va (b : Nat → Int) (n a0 q : Int) (s t : sx_S) (x2 : Int) : Prop := True → (∃ r, px_tr q (t.1 66 12) t x2 (px_app (s.1 66 7) r .leaf) ∧ (t.1 66 8 = 0 → px_K b n (s.1 66 7).toNat = 2 ∧ ∀ r' c', px_AR (px_K b n) (px_tm b n (a0 + 1)) (s.1 66 7 + 1) .leaf r' c' ↔ px_AR (px_K b n) (px_tm b n (a0 + 1)) (t.1 66 7) r r' c')) ∧ px_nb b n a0 s t
def px_vb (b : Nat → Int) (n a0 q : Int) (s t : sx_S) (x2 x4 : Int) : Prop := True → (∃ r p mid, px_tr q mid t x2 (px_app (s.1 66 7) r .leaf) ∧ px_tr mid (t.1 66 12) t x4 p ∧ mid ≤ t.1 66 12 ∧ (t.1 66 8 = 0 → px_K b n (s.1 66 7).toNat = 2 ∧ ∃ a', px_K b n (a').toNat = 9 ∧ px_tm b n (a0 + 1) (a' + 1) p (t.1 66 7) ∧ ∀ r' c', px_AR (px_K b n) (px_tm b n (a0 + 1)) (s.1 66 7 + 1) .leaf r' c' ↔ px_AR (px_K b n) (px_tm b n (a0 + 1)) a' r r' c')) ∧ px_nb b n a0 s t
def px_tk (b : Nat → Int) (n k : Int) (t u : sx_S) : Prop := True → ((u.1 66 8 = 0 ∧ t.1 66 8 = 0 ∧ u.1 66 7 = t.1 66 7 + 1) ∨ (u.1 66 8 = 1 ∧ u.1 66 7 = t.1 66 7)) ∧ (u.1 66 8 = 0 → px_rc (px_K b n (t.1 66 7).toNat) = k) ∧ (t.1 66 8 = 0 → u.1 66 8 ≠ 0 → px_rc (px_K b n (t.1 66 7).toNat) ≠ k)
theorem px_tk_mk {b : Nat → Int} {n k : Int} {t u : sx_S} (h1 : (u.1 66 8 = 0 ∧ t.1 66 8 = 0 ∧ u.1 66 7 = t.1 66 7 + 1) ∨ (u.1 66 8 = 1 ∧ u.1 66 7 = t.1 66 7)) (h2 : u.1 66 8 = 0 → px_rc (px_K b n (t.1 66 7).toNat) = k) (h3 : t.1 66 8 = 0 → u.1 66 8 ≠ 0 → px_rc (px_K b n (t.1 66 7).toNat) ≠ k) : px_tk b n k t u := fun _ => ⟨h1, h2, h3⟩
section PXT
variable {b : Nat → Int} {n a0 q : Int} {s t u v w r : sx_S} {x2 x4 z a1 : Int}
theorem px_pT_nil (h8 : t.1 66 8 ≠ 0) (ha : s.1 66 8 = 0 → 20 < a0) : px_pT b n a0 q s t (-1) := fun _ => ⟨⟨.leaf, px_tr_nil h8, fun e => absurd e h8⟩, fun e _ N c h => by
  have := ha e
  unfold px_tm at h
  rw [show (21 - a0).toNat = 0 by omega] at h
  exact h⟩
/-- two signs behind the backslash -/
theorem px_l1_mk (ha : a0 ≤ 20) (h11 : px_rc (px_K b n (s.1 66 7).toNat) = 92) (t7 : t.1 66 7 = s.1 66 7 + 1) (t8 : t.1 66 8 = 0) (tok : t.2.1 75 x2.toNat = s.1 66 7 + 1) (d1 : px_tk b n 1 t u) (d2 : px_tk b n 58 u v) (F1 : cx_F [(66, 66)] t u) (F2 : cx_F [(66, 66)] u v) : px_l1 b n a0 s v x2 := fun _ => by
  obtain ⟨a1, a2, a3⟩ := d1 trivial
  obtain ⟨b1, b2, b3⟩ := d2 trivial
  rw [t7] at a1 a2 a3
  refine ⟨fun q => ?_, fun q0 q N c h => ?_, ?_⟩
  · have u8 : u.1 66 8 = 0 := by omega
    have u7 : u.1 66 7 = s.1 66 7 + 1 + 1 := by omega
    rw [u7] at b2
    exact ⟨⟨(px_rcK b n (s.1 66 7).toNat).2.2.2.2.2.2.2.2.2.1.mp h11, (px_rcK b n (s.1 66 7 + 1).toNat).1.mp (a2 u8), (px_rcK b n (s.1 66 7 + 1 + 1).toNat).2.2.2.2.2.2.2.2.2.2.1.mp (b2 q)⟩, by omega⟩
  · rcases (px_tm_it ha).mp h with ⟨e1, e2, e3, _⟩ | ⟨e1, _⟩
    · by_cases u8 : u.1 66 8 = 0
      · have u7 : u.1 66 7 = s.1 66 7 + 1 + 1 := by omega
        rw [u7] at b3
        exact b3 u8 q ((px_rcK b n (s.1 66 7 + 1 + 1).toNat).2.2.2.2.2.2.2.2.2.2.1.mpr e3)
      · exact a3 t8 u8 ((px_rcK b n (s.1 66 7 + 1).toNat).1.mpr e2)
    · have := (px_rcK b n (s.1 66 7).toNat).2.2.2.2.2.2.2.2.2.1.mp h11
      omega
  · rw [(F2.same 75 rfl).2, (F1.same 75 rfl).2]
    exact tok
theorem px_l2_t (h : px_l1 b n a0 s t x2) (ha : a0 ≤ 20) (h2 : px_pm (px_R0 b n a1 (r.1 66 7)) r w z) (e1 : a1 = a0 + 1) (t8 : t.1 66 8 = 0) (r8 : r.1 66 8 = 0) (r7 : r.1 66 7 = t.1 66 7) (r3 : r.1 66 33 = 0) (tok : w.2.1 75 x2.toNat = t.2.1 75 x2.toNat) : px_l2 b n a0 s (w.1, sx_ua w.2.1 76 x2.toNat z, w.2.2) x2 := fun _ => by
  subst e1
  obtain ⟨c1, c2, c3⟩ := h trivial
  obtain ⟨d1, d2⟩ := h2 trivial
  obtain ⟨f1, f2⟩ := c1 t8
  rw [r7, f2] at d1 d2
  refine ⟨fun q => ⟨f1, ?_⟩, fun q0 q N c g => ?_, ?_⟩
  · obtain ⟨x, g1, g2, g3⟩ := d1 q
    refine ⟨x, g1, ?_, by dsimp only; rw [g3, r3, Int.zero_add]⟩
    unfold qx_is at g2 ⊢
    dsimp only
    rw [sx_ua_ne (by decide), sx_ua_ne (by decide), sx_ua_same]
    dsimp only
    rw [if_pos rfl]
    exact g2
  · rcases (px_tm_it ha).mp g with ⟨e1, e2, e3, x, e, e4, _⟩ | ⟨e1, _⟩
    · exact d2 r8 q x e e4
    · omega
  · dsimp only
    rw [sx_ua_ne (by decide), tok]
    exact c3
theorem px_l2_b (h : px_l1 b n a0 s t x2) (t8 : t.1 66 8 ≠ 0) (u8 : u.1 66 8 = t.1 66 8) (tok : u.2.1 75 x2.toNat = t.2.1 75 x2.toNat) : px_l2 b n a0 s u x2 := fun _ => by
  obtain ⟨c1, c2, c3⟩ := h trivial
  exact ⟨fun q => absurd (u8.symm.trans q) t8, fun q0 q => c2 q0 t8, tok.trans c3⟩
theorem px_l3_mk (h : px_l2 b n a0 s t x2) {v : Int} (hw : v = t.1 66 33) : px_l3 b n a0 s (t.1, sx_ua t.2.1 78 x2.toNat v, t.2.2) x2 := fun _ => by
  subst hw
  obtain ⟨c1, c2, c3⟩ := h trivial
  refine ⟨fun q => ⟨(c1 q).1, ?_⟩, c2, ?_⟩
  · obtain ⟨_, x, g1, g2, g3⟩ := c1 q
    refine ⟨x, g1, ?_, ?_⟩
    · unfold qx_is at g2 ⊢
      dsimp only
      rw [sx_ua_ne (by decide), sx_ua_ne (by decide), sx_ua_ne (by decide)]
      exact g2
    · dsimp only
      rw [sx_ua_same]
      dsimp only
      rw [if_pos rfl]
      exact g3
  · dsimp only
    rw [sx_ua_ne (by decide)]
    exact c3
theorem px_l4_mk (h : px_l3 b n a0 s t x2) (ha : a0 ≤ 20) (d1 : px_tk b n 46 t u) (F1 : cx_F [(66, 66)] t u) (f1 : rf_f [7, 8] t u) : px_l4 b n a0 s u x2 := fun _ => by
  obtain ⟨c1, c2, c3⟩ := h trivial
  obtain ⟨a1, a2, a3⟩ := d1 trivial
  have t8' : u.1 66 8 = 0 → t.1 66 8 = 0 ∧ u.1 66 7 = t.1 66 7 + 1 := fun q => by
    rcases a1 with z | z
    · exact z.2
    · exact absurd (z.1.symm.trans q) (by decide)
  refine ⟨fun q => ⟨(c1 (t8' q).1).1, ?_⟩, fun q0 q N c g => ?_, by rw [(F1.same 75 rfl).2]; exact c3⟩
  · obtain ⟨_, x, g1, g2, g3⟩ := c1 (t8' q).1
    refine ⟨x, _, g1, (px_rcK b n (t.1 66 7).toNat).2.2.2.2.2.2.2.2.2.2.2.1.mp (a2 q), (t8' q).2, ?_, ?_⟩
    · unfold qx_is at g2 ⊢
      rw [(F1.same 72 rfl).2, (F1.same 73 rfl).2, (F1.same 76 rfl).2, f1 9 rfl]
      exact g2
    · rw [(F1.same 78 rfl).2]
      exact g3
  · by_cases t8 : t.1 66 8 = 0
    · obtain ⟨f1, x, g1, g2, g3⟩ := c1 t8
      rcases (px_tm_it ha).mp g with ⟨e1, e2, e3, x', e, e4, e5, _⟩ | ⟨e1, _⟩
      · obtain ⟨rfl, rfl⟩ := px_TY_fun g1 e4
        exact a3 t8 q ((px_rcK b n (t.1 66 7).toNat).2.2.2.2.2.2.2.2.2.2.2.1.mpr e5)
      · omega
    · exact c2 q0 t8 N c g
theorem px_pT_l (h : px_l4 b n a0 s t x2) (ha : a0 ≤ 20) (h2 : px_pT b n a1 (t.1 66 12) t u z) (h3 : px_AL q u v x2 z) (e1 : a1 = a0 + 1) (h12 : t.1 66 12 = x2 + 1) (h0 : 0 ≤ x2) (hn : rf_nt (t.1 66 12) t u) (hu : rf_tu t u) (v7 : v.1 66 7 = u.1 66 7) (v8 : v.1 66 8 = u.1 66 8) (u8 : u.1 66 8 = 0 → t.1 66 8 = 0) : px_pT b n a0 q s v x2 := fun _ => by
  subst e1
  obtain ⟨c1, c2, c3⟩ := h trivial
  obtain ⟨⟨N, d1, d2⟩, d3⟩ := h2 trivial
  rw [h12] at d1
  have e75 : u.2.1 75 x2.toNat = s.1 66 7 + 1 := by
    rw [hn 75 x2.toNat (by omega) (by omega) (by omega)]
    exact c3
  have e76 := hn 76 x2.toNat (by omega) (by omega) (by omega)
  have e78 := hn 78 x2.toNat (by omega) (by omega) (by omega)
  refine ⟨?_, fun q0 q M c g => ?_⟩
  · by_cases t8 : t.1 66 8 = 0
    · obtain ⟨f1, x, e, g1, g2, g3, g4, g5⟩ := c1 t8
      have h4 := h3 N x (fun _ => ⟨by rw [e76]; exact qx_is_up g4 hu, by rw [e78]; exact g5⟩) d1
      rw [e75] at h4
      refine ⟨_, h4, fun q => ?_⟩
      refine (px_tm_it ha).mpr (Or.inl ⟨f1.1, f1.2.1, f1.2.2, x, e, g1, g2, N, ?_, rfl⟩)
      rw [v7, ← g3]
      exact d2 (v8.symm.trans q)
    · have u8' : u.1 66 8 ≠ 0 := fun q => t8 (u8 q)
      exact ⟨_, h3 N .leaf (fun q => absurd q u8') d1, fun q => absurd (v8.symm.trans q) u8'⟩
  · by_cases t8 : t.1 66 8 = 0
    · obtain ⟨f1, x, e, g1, g2, g3, g4, g5⟩ := c1 t8
      rcases (px_tm_it ha).mp g with ⟨e1, e2, e3, x', e', e4, e5, u', e6, _⟩ | ⟨e1, _⟩
      · obtain ⟨rfl, rfl⟩ := px_TY_fun g1 e4
        rw [← g3] at e6
        exact d3 t8 (fun z => q (v8.trans z)) _ _ e6
      · omega
    · exact c2 q0 t8 M c g
/-- a NAME: nothing read behind it -/
theorem px_va_0 (ha : a0 ≤ 20) (hn11 : px_rc (px_K b n (s.1 66 7).toNat) ≠ 92) (h1 : px_tr q (v.1 66 12) v x2 (px_app (s.1 66 7) .leaf .leaf)) (d1 : px_tk b n 1 u v) (u7 : u.1 66 7 = s.1 66 7) (u8 : u.1 66 8 = 0) : px_va b n a0 q s v x2 := fun _ => by
  obtain ⟨a1, a2, a3⟩ := d1 trivial
  rw [u7] at a1 a2 a3
  refine ⟨⟨.leaf, h1, fun q => ⟨(px_rcK b n (s.1 66 7).toNat).1.mp (a2 q), fun r' c' => ?_⟩⟩, fun q0 q N c g => ?_⟩
  · rw [show v.1 66 7 = s.1 66 7 + 1 by omega]
  · rcases (px_tm_it ha).mp g with ⟨e1, _⟩ | ⟨e1, _⟩
    · exact hn11 ((px_rcK b n (s.1 66 7).toNat).2.2.2.2.2.2.2.2.2.1.mpr e1)
    · exact a3 u8 q ((px_rcK b n (s.1 66 7).toNat).1.mpr e1)
theorem px_pT_v (h : px_va b n a0 q s t x2) (ha : a0 ≤ 20) (hk : t.1 66 8 = 0 → px_rc (px_K b n (t.1 66 7).toNat) ≠ 1 ∧ px_rc (px_K b n (t.1 66 7).toNat) ≠ 40) : px_pT b n a0 q s t x2 := fun _ => by
  obtain ⟨⟨r, c1, c2⟩, c3⟩ := h trivial
  refine ⟨⟨_, c1, fun q => ?_⟩, c3⟩
  obtain ⟨d1, d2⟩ := c2 q
  obtain ⟨k1, k2⟩ := hk q
  exact (px_tm_it ha).mpr (Or.inr ⟨d1, r, (d2 _ _).mpr (px_AR_it.mpr (Or.inr (Or.inr ⟨fun e => k2 ((px_rcK b n (t.1 66 7).toNat).2.2.2.2.2.2.2.1.mpr e), fun e => k1 ((px_rcK b n (t.1 66 7).toNat).1.mpr e), rfl, rfl⟩))), rfl⟩)
theorem px_AR_2 {K : Nat → Int} {T : Int → px_N → Int → Prop} {a c : Int} {r r' : px_N} (h2 : K a.toNat = 2) : px_AR K T a r r' c ↔ px_AR K T (a + 1) (px_snoc r (px_app a .leaf .leaf)) r' c := by
  rw [px_AR_it]
  constructor
  · rintro (⟨q, _⟩ | ⟨_, q⟩ | ⟨_, q, _⟩)
    · omega
    · exact q
    · exact absurd h2 q
  · exact fun q => Or.inr (Or.inl ⟨h2, q⟩)
theorem px_AR_9 {K : Nat → Int} {T : Int → px_N → Int → Prop} (hT : ∀ a t e t' e', T a t e → T a t' e' → t = t' ∧ e = e') {a c e : Int} {r r' t : px_N} (h9 : K a.toNat = 9) (ht : T (a + 1) t e) (h10 : K e.toNat = 10) : px_AR K T a r r' c ↔ px_AR K T (e + 1) (px_snoc r t) r' c := by
  rw [px_AR_it]
  constructor
  · rintro (⟨_, t', e', q1, q2, q3⟩ | ⟨q, _⟩ | ⟨q, _⟩)
    · obtain ⟨rfl, rfl⟩ := hT _ _ _ _ _ ht q1
      exact q3
    · omega
    · exact absurd h9 q
  · exact fun q => Or.inl ⟨h9, t, e, ht, h10, q⟩
/-- one NAME more -/
theorem px_va_n (h : px_va b n a0 q s t x2) (t8 : t.1 66 8 = 0) (hk : px_rc (px_K b n (t.1 66 7).toNat) = 1) (h2 : px_tr (t.1 66 12) (u.1 66 12) u z (px_app (t.1 66 7) .leaf .leaf)) (h3 : px_AD q u v x2 z) (hn : rf_nt (t.1 66 12) t u) (hu : rf_tu t u) (h12 : t.1 66 12 ≤ u.1 66 12) (w7 : w.1 66 7 = t.1 66 7 + 1) (w8 : w.1 66 8 = 0) (hw : ∀ m, px_tr q (v.1 66 12) v x2 m → px_tr q (w.1 66 12) w x2 m) : px_va b n a0 q s w x2 := fun _ => by
  obtain ⟨⟨r, c1, c2⟩, c3⟩ := h trivial
  obtain ⟨d1, d2⟩ := c2 t8
  have h4 := h3 (t.1 66 12) (s.1 66 7) r (px_app (t.1 66 7) .leaf .leaf) (px_tr_nt c1 hn hu (Int.le_refl _) h12 (fun _ => t8)) h2 h12
  refine ⟨⟨_, hw _ h4, fun q => ⟨d1, fun r' c' => (d2 r' c').trans ?_⟩⟩, fun _ q => absurd w8 q⟩
  rw [w7]
  exact px_AR_2 ((px_rcK b n _).1.mp hk)
/-- a bracket: what is in it -/
theorem px_vb_mk (h : px_va b n a0 q s t x2) (ha : a0 ≤ 20) (t8 : t.1 66 8 = 0) (hk : px_rc (px_K b n (t.1 66 7).toNat) = 40) (h2 : px_pT b n a1 (r.1 66 12) r u z) (e1 : a1 = a0 + 1) (r7 : r.1 66 7 = t.1 66 7 + 1) (r8 : r.1 66 8 = 0) (r12 : r.1 66 12 = t.1 66 12) (hn : rf_nt (t.1 66 12) t u) (hu : rf_tu t u) (h12 : t.1 66 12 ≤ u.1 66 12) : px_vb b n a0 q s u x2 z := fun _ => by
  subst e1
  obtain ⟨⟨r1, c1, c2⟩, c3⟩ := h trivial
  obtain ⟨d1, d2⟩ := c2 t8
  obtain ⟨⟨N, f1, f2⟩, f3⟩ := h2 trivial
  have h9 := (px_rcK b n _).2.2.2.2.2.2.2.1.mp hk
  rw [r7] at f2
  rw [r12] at f1
  refine ⟨⟨r1, N, t.1 66 12, px_tr_nt c1 hn hu (Int.le_refl _) h12 (fun _ => t8), f1, h12, fun q => ⟨d1, _, h9, f2 q, d2⟩⟩, fun q0 q M c g => ?_⟩
  rcases (px_tm_it ha).mp g with ⟨g1, _⟩ | ⟨g1, r', g2, _⟩
  · omega
  · rcases px_AR_it.mp ((d2 _ _).mp g2) with ⟨_, t', e', q1, _⟩ | ⟨k, _⟩ | ⟨k, _⟩
    · rw [← r7] at q1
      exact f3 r8 q _ _ q1
    · omega
    · exact k h9
theorem px_vb_no (h : px_vb b n a0 q s t x2 x4) (ha : a0 ≤ 20) (d1 : px_tk b n 41 t u) (u8 : u.1 66 8 ≠ 0) : px_nb b n a0 s u := fun q0 q M c g => by
  obtain ⟨⟨r, p, mid, c1, c2, c3, c4⟩, c5⟩ := h trivial
  obtain ⟨a1, a2, a3⟩ := d1 trivial
  by_cases t8 : t.1 66 8 = 0
  · obtain ⟨f1, a', f2, f3, f4⟩ := c4 t8
    rcases (px_tm_it ha).mp g with ⟨g1, _⟩ | ⟨g1, r', g2, _⟩
    · omega
    · rcases px_AR_it.mp ((f4 _ _).mp g2) with ⟨_, t', e', q1, q2, _⟩ | ⟨k, _⟩ | ⟨k, _⟩
      · obtain ⟨rfl, rfl⟩ := px_tm_fun _ _ _ _ _ f3 q1
        exact a3 t8 q ((px_rcK b n _).2.2.2.2.2.2.2.2.1.mpr q2)
      · omega
      · exact k f2
  · exact c5 q0 t8 M c g
theorem px_va_b (h : px_vb b n a0 q s t x2 x4) (ha : a0 ≤ 20) (d1 : px_tk b n 41 t u) (u8 : u.1 66 8 ≠ 0) (hw : ∀ lo hi z m, px_tr lo hi t z m → px_tr lo hi u z m) (u12 : u.1 66 12 = t.1 66 12) : px_va b n a0 q s u x2 := fun _ => by
  obtain ⟨⟨r, p, mid, c1, c2, c3, c4⟩, c5⟩ := h trivial
  exact ⟨⟨r, by rw [u12]; exact hw _ _ _ _ (px_tr_wk c1 (Int.le_refl _) c3), fun q => absurd q u8⟩, px_vb_no h ha d1 u8⟩
theorem px_va_p (h : px_vb b n a0 q s t x2 x4) (d1 : px_tk b n 41 t u) (u8 : u.1 66 8 = 0) (h3 : px_AD q v w x2 x4) (hw : ∀ lo hi z m, px_tr lo hi t z m → px_tr lo hi v z m) (v12 : v.1 66 12 = t.1 66 12) (w7 : w.1 66 7 = u.1 66 7) (w8 : w.1 66 8 = 0) : px_va b n a0 q s w x2 := fun _ => by
  obtain ⟨⟨r, p, mid, c1, c2, c3, c4⟩, c5⟩ := h trivial
  obtain ⟨a1, a2, a3⟩ := d1 trivial
  have t8 : t.1 66 8 = 0 := by omega
  obtain ⟨f1, a', f2, f3, f4⟩ := c4 t8
  have h4 := h3 mid (s.1 66 7) r p (hw _ _ _ _ c1) (by rw [v12]; exact hw _ _ _ _ c2) (by omega)
  refine ⟨⟨_, h4, fun q => ⟨f1, fun r' c' => (f4 r' c').trans ?_⟩⟩, fun _ q => absurd w8 q⟩
  rw [show w.1 66 7 = t.1 66 7 + 1 by omega]
  exact px_AR_9 px_tm_fun f2 f3 ((px_rcK b n _).2.2.2.2.2.2.2.2.1.mp (a2 u8))
theorem px_va_q (h : px_va b n a0 q s t x2) : ∃ m, px_tr q (t.1 66 12) t x2 m := by
  obtain ⟨⟨r, c1, _⟩, _⟩ := h trivial
  exact ⟨_, c1⟩
theorem px_vb_q (h : px_vb b n a0 q s t x2 x4) (hw : ∀ lo hi z m, px_tr lo hi t z m → px_tr lo hi u z m) (u12 : u.1 66 12 = t.1 66 12) : px_aq q u x2 x4 := by
  obtain ⟨⟨r, p, mid, c1, c2, c3, c4⟩, _⟩ := h trivial
  exact ⟨mid, _, _, hw _ _ _ _ c1, by rw [u12]; exact hw _ _ _ _ c2, by omega⟩
theorem px_pT_q (h : px_pT b n a0 q s t z) : px_tq q t z := by
  obtain ⟨⟨N, c1, _⟩, _⟩ := h trivial
  exact ⟨N, c1⟩
end PXT
end
