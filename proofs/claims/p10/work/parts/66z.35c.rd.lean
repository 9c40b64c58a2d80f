/-! ===== the reference reads trees, exactly ===== -/
theorem rf_nd_fun {K R F X : Nat → Int} {N : Int} : ∀ {t t' : rf_N} {i : Int}, rf_nd K R F X N t i → rf_nd K R F X N t' i → t = t'
  | .leaf, .leaf, _, _, _ => rfl
  | .leaf, .inner _ _ _ _ _, _, h, g => by
    have h1 : _ = (-1 : Int) := h
    have := g.1.1
    omega
  | .inner _ _ _ _ _, .leaf, _, h, g => by
    have h1 : _ = (-1 : Int) := g
    have := h.1.1
    omega
  | .inner j k _ f x, .inner j' k' _ f' x', i, h, g => by
    obtain ⟨⟨a1, _⟩, ⟨a2, a3⟩, a4, a5⟩ := h
    obtain ⟨⟨b1, _⟩, ⟨b2, b3⟩, b4, b5⟩ := g
    have e : j = j' := by omega
    subst e
    rw [rf_nd_fun a4 b4, rf_nd_fun a5 b5, show k = k' from Prod.ext (a2.symm.trans b2) (a3.symm.trans b3)]
/-- a tree of read nodes is this text's tree -/
def px_is (s : sx_S) : rf_N → px_N → Prop
  | .leaf, .leaf => True
  | .inner j k _ f x, .inner g q _ f' x' => (k.2 = q.1 ∧ ((k.1 = 0 ∧ g = 0 ∧ qx_is s q.2 (s.2.1 76 j) ∧ s.2.1 78 j = (qx_at q.2 : Int)) ∨ (k.1 = 2 ∧ g = 1 ∧ q.2 = .leaf))) ∧ px_is s f f' ∧ px_is s x x'
  | .leaf, .inner _ _ _ _ _ => False
  | .inner _ _ _ _ _, .leaf => False
theorem px_is_up {s t : sx_S} (hu : rf_tu s t) : ∀ {n : rf_N} {m : px_N}, (∀ j ∈ rf_idx n, t.2.1 76 j = s.2.1 76 j ∧ t.2.1 78 j = s.2.1 78 j) → px_is s n m → px_is t n m
  | .leaf, .leaf, _, h => h
  | .inner j k _ f x, .inner g q _ f' x', hj, h => by
    obtain ⟨⟨a1, a2⟩, a3, a4⟩ := h
    have h0 := hj j List.mem_cons_self
    refine ⟨⟨a1, ?_⟩, px_is_up hu (fun i hi => hj i (List.mem_cons_of_mem _ (List.mem_append_left _ hi))) a3, px_is_up hu (fun i hi => hj i (List.mem_cons_of_mem _ (List.mem_append_right _ hi))) a4⟩
    rcases a2 with ⟨b1, b2, b3, b4⟩ | b
    · exact Or.inl ⟨b1, b2, by rw [h0.1]; exact qx_is_up b3 hu, by rw [h0.2]; exact b4⟩
    · exact Or.inr b
theorem px_is_snoc {s : sx_S} {p : rf_N} {p' : px_N} (hp : px_is s p p') : ∀ {n : rf_N} {m : px_N}, px_is s n m → px_is s (rf_snoc n p) (px_snoc m p')
  | .leaf, .leaf, _ => hp
  | .inner _ _ _ _ _, .inner _ _ _ _ _, h => ⟨h.1, h.2.1, px_is_snoc hp h.2.2⟩
def px_tr (lo hi : Int) (s : sx_S) (z : Int) (n : px_N) : Prop := ∃ t : rf_N, rf_rt s t z ∧ (rf_idx t).Nodup ∧ (∀ j ∈ rf_idx t, lo ≤ (j : Int) ∧ (j : Int) < hi) ∧ rf_nx t ∧ (s.1 66 8 = 0 → px_is s t n)
theorem px_tr_nt {m lo hi : Int} {s t : sx_S} {z : Int} {n : px_N} (q : px_tr lo hi s z n) (hn : rf_nt m s t) (hu : rf_tu s t) (hm : hi ≤ m) (h12 : s.1 66 12 ≤ t.1 66 12) (h8 : t.1 66 8 = 0 → s.1 66 8 = 0) : px_tr lo hi t z n := by
  obtain ⟨k, h1, h2, h3, h4, h5⟩ := q
  have hj : ∀ j ∈ rf_idx k, (j : Int) < m := fun j hj => by have := (h3 j hj).2; omega
  exact ⟨k, rf_rt_nt hn h12 hj h1, h2, h3, h4, fun e => px_is_up hu (fun j q => ⟨hn 76 j (by omega) (by omega) (hj j q), hn 78 j (by omega) (by omega) (hj j q)⟩) (h5 (h8 e))⟩
theorem px_tr_wk {lo hi lo' hi' : Int} {s : sx_S} {z : Int} {n : px_N} (q : px_tr lo hi s z n) (h1 : lo' ≤ lo) (h2 : hi ≤ hi') : px_tr lo' hi' s z n := by
  obtain ⟨k, a, b, c, d, e⟩ := q
  exact ⟨k, a, b, fun j hj => by have := c j hj; omega, d, e⟩
theorem px_tr_nil {lo hi : Int} {s : sx_S} {n : px_N} (h8 : s.1 66 8 ≠ 0) : px_tr lo hi s (-1) n := ⟨.leaf, rfl, List.nodup_nil, fun j hj => absurd hj List.not_mem_nil, trivial, fun e => absurd e h8⟩
theorem px_tr_new {lo hi a : Int} {s : sx_S} {z : Int} (h0 : 0 ≤ z) (hz : z < s.1 66 12) (hk : rf_nk s z 2) (ht : s.2.1 75 z.toNat = a) (hlo : lo ≤ z) (hhi : z < hi) : px_tr lo hi s z (px_app a .leaf .leaf) := by
  obtain ⟨k1, k2, k3, k4⟩ := hk trivial
  refine ⟨rf_n z.toNat 2 (s.2.1 75 z.toNat) .leaf .leaf, ⟨⟨by omega, by omega⟩, ⟨k1, rfl⟩, k2, k3⟩, by simp [rf_idx], fun j hj => ?_, rfl, fun _ => ⟨⟨ht, Or.inr ⟨rfl, rfl, rfl⟩⟩, trivial, trivial⟩⟩
  simp [rf_idx] at hj
  omega
theorem px_tr_arr {lo hi : Int} {s t : sx_S} {z : Int} {m : px_N} (e : ∀ p, (p = 72 ∨ p = 73 ∨ p = 74 ∨ p = 75 ∨ p = 76 ∨ p = 78 ∨ p = 80 ∨ p = 81) → t.2.1 p = s.2.1 p) (h12 : t.1 66 12 = s.1 66 12) (h9 : t.1 66 9 = s.1 66 9) (h8 : t.1 66 8 = 0 → s.1 66 8 = 0) (q : px_tr lo hi s z m) : px_tr lo hi t z m := by
  obtain ⟨n, h1, h2, h3, h4, h5⟩ := q
  refine ⟨n, ?_, h2, h3, h4, fun c => px_is_up (fun j => ⟨by omega, fun _ => ⟨by rw [e 72 (by decide)], by rw [e 73 (by decide)]⟩⟩) (fun j _ => ⟨by rw [e 76 (by decide)], by rw [e 78 (by decide)]⟩) (h5 (h8 c))⟩
  unfold rf_rt at h1 ⊢
  rw [e 74 (by decide), e 75 (by decide), e 80 (by decide), e 81 (by decide), h12]
  exact h1
theorem px_tr_uf {lo hi : Int} {F : Nat → Nat → Int} {B : (Nat → Nat → Int) × (Nat → Nat → Int) × Nat} {k : Nat} {v z : Int} {m : px_N} (hk : (Nat.beq k 8 || Nat.beq k 9 || Nat.beq k 12) = false) (q : px_tr lo hi (F, B) z m) : px_tr lo hi (sx_uf F 66 k v, B) z m := by
  have e : ∀ j, Nat.beq k j = false → sx_uf F 66 k v 66 j = F 66 j := fun j hj => by
    rw [sx_uf_if]
    refine if_neg (fun c => ?_)
    rw [c.2, Nat.beq_refl] at hj
    cases hj
  simp only [Bool.or_eq_false_iff] at hk
  exact px_tr_arr (s := (F, B)) (fun _ _ => rfl) (e 12 hk.2) (e 9 hk.1.2) (fun c => (e 8 hk.1.1).symm.trans c) q
theorem px_tr_ua {lo hi : Int} {F A : Nat → Nat → Int} {B : (Nat → Nat → Int) × Nat} {p k : Nat} {v z : Int} {m : px_N} (hp : (Nat.beq p 77 || Nat.beq p 79) = true) (q : px_tr lo hi (F, A, B) z m) : px_tr lo hi (F, sx_ua A p k v, B) z m := by
  refine px_tr_arr (s := (F, A, B)) (fun r hr => ?_) rfl rfl id q
  refine sx_ua_ne (fun c => ?_)
  subst c
  rcases hr with rfl | rfl | rfl | rfl | rfl | rfl | rfl | rfl <;> exact absurd hp (by decide)
theorem px_tr_F {V : List (Nat × Nat)} {W : List Nat} {lo hi : Int} {s t : sx_S} {z : Int} {m : px_N} (hF : cx_F V s t) (hV : (cx_outb V 72 && cx_outb V 73 && cx_outb V 74 && cx_outb V 75 && cx_outb V 76 && cx_outb V 78 && cx_outb V 80 && cx_outb V 81) = true) (hf : rf_f W s t) (hW : (W.contains 9 || W.contains 12) = false) (h8 : t.1 66 8 = 0 → s.1 66 8 = 0) (q : px_tr lo hi s z m) : px_tr lo hi t z m := by
  simp only [Bool.and_eq_true] at hV
  simp only [Bool.or_eq_false_iff] at hW
  refine px_tr_arr (fun r hr => ?_) (hf 12 hW.2) (hf 9 hW.1) h8 q
  rcases hr with rfl | rfl | rfl | rfl | rfl | rfl | rfl | rfl
  · exact (hF.same 72 hV.1.1.1.1.1.1.1).2
  · exact (hF.same 73 hV.1.1.1.1.1.1.2).2
  · exact (hF.same 74 hV.1.1.1.1.1.2).2
  · exact (hF.same 75 hV.1.1.1.1.2).2
  · exact (hF.same 76 hV.1.1.1.2).2
  · exact (hF.same 78 hV.1.1.2).2
  · exact (hF.same 80 hV.1.2).2
  · exact (hF.same 81 hV.2).2
/-- what adding a part wants and gives -/
def px_aq (q : Int) (s : sx_S) (b0 b1 : Int) : Prop := ∃ mid n0 n1, px_tr q mid s b0 n0 ∧ px_tr mid (s.1 66 12) s b1 n1 ∧ mid ≤ s.1 66 12
def px_AD (q : Int) (s t : sx_S) (b0 b1 : Int) : Prop := ∀ mid a r p, px_tr q mid s b0 (px_app a r .leaf) → px_tr mid (s.1 66 12) s b1 p → mid ≤ s.1 66 12 → px_tr q (t.1 66 12) t b0 (px_app a (px_snoc r p) .leaf)
def px_tq (lo : Int) (s : sx_S) (b1 : Int) : Prop := ∃ p, px_tr lo (s.1 66 12) s b1 p
def px_AL (q : Int) (s t : sx_S) (b0 b1 : Int) : Prop := ∀ p x, (s.1 66 8 = 0 → qx_is s x (s.2.1 76 b0.toNat) ∧ s.2.1 78 b0.toNat = (qx_at x : Int)) → px_tr (b0 + 1) (s.1 66 12) s b1 p → px_tr q (t.1 66 12) t b0 (px_lam (s.2.1 75 b0.toNat) x p .leaf)
theorem px_is_arr {s t : sx_S} (h1 : t.1 = s.1) {p : Nat} {l : Nat} {v : Int} (h2 : t.2.1 = sx_ua s.2.1 p l v) (hp : p = 80 ∨ p = 81) {n : rf_N} {m : px_N} (h : px_is s n m) : px_is t n m := by
  have q : ∀ p', p' ≠ 80 → p' ≠ 81 → t.2.1 p' = s.2.1 p' := fun p' a b => by
    rw [h2]
    rcases hp with rfl | rfl
    · exact sx_ua_ne a
    · exact sx_ua_ne b
  exact px_is_up (fun j => ⟨by rw [h1]; omega, fun _ => ⟨by rw [q 72 (by decide) (by decide)], by rw [q 73 (by decide) (by decide)]⟩⟩) (fun j _ => ⟨by rw [q 76 (by decide) (by decide)], by rw [q 78 (by decide) (by decide)]⟩) h

theorem c_q_addA {sL : Nat} {sx : Nat → Int32} (hsL : sL ≤ 3072) (d : Nat) (hd : 2 ≤ d) (q : Int) : ∀ (a0 a1 : Int) (s : sx_S) (K : Int → sx_S → Prop), cx_I s → (0 ≤ a0 ∧ a0 ≤ 599) → (0 ≤ a1 ∧ a1 ≤ 599) → (s.1 66 8 = 0) → (rf_nk2 s a0) → (px_aq q s a0 a1) → (∀ (z : Int) (t : sx_S), cx_I t → cx_F [(80, 81)] s t → (px_AD q s t a0 a1) → (rf_nt q s t) → (rf_nk2 t a0) → (rf_f [] s t) → (t.1 66 7 = s.1 66 7 ∧ t.1 66 8 = s.1 66 8 ∧ t.1 66 9 = s.1 66 9 ∧ t.1 66 12 = s.1 66 12 ∧ t.1 66 33 = s.1 66 33 ∧ t.1 66 24 = s.1 66 24) → K z t) → sx_C sL sx d 162 [.inr (.inl 66), .inl a0, .inl a1] s K := by
  intro a0 a1 s K hI p0 p1 p2 p3 p4 hK
  obtain ⟨mid, n0, n1, ⟨n, h1, h2, h3, h4, h5⟩, ⟨tp, g1, g2, g3, g4, g5⟩, hm⟩ := p4
  obtain ⟨f, x, rfl, e0, e1, hf, hx⟩ := rf_nd_cons h1 (by omega)
  have hxl : x = .leaf := h4
  subst hxl
  have hk : s.2.1 74 a0.toNat = 2 := p3 trivial
  have hfi : ∀ i ∈ rf_idx f, q ≤ (i : Int) := fun i hi => (h3 i (List.mem_cons_of_mem _ (List.mem_append_left _ hi))).1
  have hq0 : q ≤ (a0.toNat : Int) := (h3 a0.toNat List.mem_cons_self).1
  have key : ∀ t : sx_S, t.1 = s.1 → ((f = .leaf ∧ t.2.1 = sx_ua s.2.1 80 a0.toNat a1) ∨ (f ≠ .leaf ∧ t.2.1 = sx_ua s.2.1 81 (rf_last f 0) a1)) → px_AD q s t a0 a1 := by
    intro t ht1 ht2 mid' a r p ⟨n', h1', h2', h3', h4', h5'⟩ ⟨tp', g1', g2', g3', g4', g5'⟩ hm'
    cases rf_nd_fun h1' h1
    cases rf_nd_fun g1' g1
    obtain ⟨k1, k2, k3, k4⟩ := rf_add_tr (lo := q) (mid := mid') (hi := s.1 66 12) (by rw [ht1]) h1 h2 h3' g1 g2 g3' hm' ht2
    have hD : ∀ {n : rf_N} {m : px_N}, px_is s n m → px_is t n m := by
      intro n m h
      rcases ht2 with ⟨_, ht2⟩ | ⟨_, ht2⟩
      · exact px_is_arr ht1 ht2 (Or.inl rfl) h
      · exact px_is_arr ht1 ht2 (Or.inr rfl) h
    refine ⟨_, k1, k2, by rw [ht1]; exact k3, rfl, fun _ => ?_⟩
    obtain ⟨c1, c2, c3⟩ := hD (h5' p2)
    exact ⟨c1, px_is_snoc (hD (g5' p2)) c2, trivial⟩
  refine c_r_add hsL d hd a0 a1 f s K hI p0 ⟨by omega, by omega⟩ hf (fun hl => hK 0 _ (cx_I_ua rfl rfl hI (by omega) (by omega)) (cx_F_ua rfl (cx_F_refl _ _)) (key _ rfl (Or.inl ⟨hl, rfl⟩)) (rf_nt_ua' hq0 (rf_nt_refl _ _)) (fun _ => ?_) (fun _ _ => rfl) ⟨rfl, rfl, rfl, rfl, rfl, rfl⟩) (fun l hl e => hK 0 _ (cx_I_ua rfl rfl hI (by omega) (by omega)) (cx_F_ua rfl (cx_F_refl _ _)) (key _ rfl (Or.inr ⟨hl, by rw [e]⟩)) (rf_nt_ua' (hfi l (by rw [e]; exact rf_last_mem f 0 hl)) (rf_nt_refl _ _)) (fun _ => ?_) (fun _ _ => rfl) ⟨rfl, rfl, rfl, rfl, rfl, rfl⟩)
  · dsimp only
    rw [sx_ua_ne (by decide)]
    exact hk
  · dsimp only
    rw [sx_ua_ne (by decide)]
    exact hk
theorem c_q_addL {sL : Nat} {sx : Nat → Int32} (hsL : sL ≤ 3072) (d : Nat) (hd : 2 ≤ d) (q : Int) : ∀ (a0 a1 : Int) (s : sx_S) (K : Int → sx_S → Prop), cx_I s → (0 ≤ a0 ∧ a0 ≤ 599) → (-1 ≤ a1 ∧ a1 ≤ 599) → (rf_nk s a0 0) → (px_tq (a0 + 1) s a1) → (a0 < s.1 66 12) → (q ≤ a0) → (∀ (z : Int) (t : sx_S), cx_I t → cx_F [(80, 81)] s t → (px_AL q s t a0 a1) → (rf_nt q s t) → (rf_f [] s t) → (t.1 66 7 = s.1 66 7 ∧ t.1 66 8 = s.1 66 8 ∧ t.1 66 9 = s.1 66 9 ∧ t.1 66 12 = s.1 66 12 ∧ t.1 66 33 = s.1 66 33 ∧ t.1 66 24 = s.1 66 24) → K z t) → sx_C sL sx d 162 [.inr (.inl 66), .inl a0, .inl a1] s K := by
  intro a0 a1 s K hI p0 p1 p2 p4 p6 p7 hK
  obtain ⟨k1, k2, k3, k4⟩ := p2 trivial
  have hR : rf_rt s (rf_n a0.toNat 0 (s.2.1 75 a0.toNat) .leaf .leaf) a0 := ⟨⟨by omega, by omega⟩, ⟨k1, rfl⟩, k2, k3⟩
  have key : ∀ t : sx_S, t.1 = s.1 → t.2.1 = sx_ua s.2.1 80 a0.toNat a1 → px_AL q s t a0 a1 := by
    intro t ht1 ht2 p x hx ⟨tp, g1, g2, g3, g4, g5⟩
    obtain ⟨m1, m2, m3, m4⟩ := rf_add_tr (lo := q) (mid := a0 + 1) (hi := s.1 66 12) (f := .leaf) (by rw [ht1]) hR (by simp [rf_idx]) (fun i hi => by simp [rf_idx] at hi; omega) g1 g2 g3 (by omega) (Or.inl ⟨rfl, ht2⟩)
    have hq : ∀ p', p' ≠ 80 → t.2.1 p' = s.2.1 p' := fun p' a => by
      rw [ht2]
      exact sx_ua_ne a
    refine ⟨_, m1, m2, by rw [ht1]; exact m3, rfl, fun e => ?_⟩
    rw [ht1] at e
    obtain ⟨x1, x2⟩ := hx e
    refine ⟨⟨rfl, Or.inl ⟨rfl, rfl, ?_, ?_⟩⟩, px_is_arr ht1 ht2 (Or.inl rfl) (g5 e), trivial⟩
    · unfold qx_is at x1 ⊢
      rw [hq 72 (by decide), hq 73 (by decide), hq 76 (by decide), ht1]
      exact x1
    · rw [hq 78 (by decide)]
      exact x2
  refine c_r_add hsL d hd a0 a1 .leaf s K hI p0 p1 k2 (fun hl => hK 0 _ (cx_I_ua rfl rfl hI (by omega) (by omega)) (cx_F_ua rfl (cx_F_refl _ _)) (key _ rfl rfl) (rf_nt_ua' (by omega) (rf_nt_refl _ _)) (fun _ _ => rfl) ⟨rfl, rfl, rfl, rfl, rfl, rfl⟩) (fun l hl e => absurd rfl hl)

theorem w_q_node {CALL : sx_Ca} {sL : Nat} {sx : Nat → Int32} {Q : Nat → sx_L → sx_S → Prop} {R : Int → sx_S → Prop} {s : sx_S} {a0 a1 : Int} (hI : cx_I s) (p0 : (-2147483648 ≤ a0 ∧ a0 ≤ 2147483647)) (p1 : (0 ≤ a1 ∧ a1 ≤ 241)) (p2 : (s.1 66 12 ≤ 599)) (hK : ∀ (z : Int) (t : sx_S), cx_I t → cx_F [(66, 66), (74, 84)] s t → (z = s.1 66 12) → (t.1 66 12 = s.1 66 12 + 1) → (rf_f [12] s t) → (t.1 66 7 = s.1 66 7 ∧ t.1 66 8 = s.1 66 8 ∧ t.1 66 9 = s.1 66 9 ∧ t.1 66 33 = s.1 66 33 ∧ t.1 66 24 = s.1 66 24) → (rf_nt (s.1 66 12) s t) → (rf_nk t z a0) → (t.2.1 75 z.toNat = a1) → R z t) : sx_wp true sL sx eX12_node CALL [] Q R 400 0 (sx_argsF 0 [.inr (.inl 66), .inl a0, .inl a1]) [] s := by
  repeat' (first | (with_reducible intro _) | (refine And.intro ?_ ?_) | (refine hK _ _ ?_ ?_ ?_ ?_ ?_ ?_ ?_ ?_ ?_))
  all_goals (try dsimp only)
  repeat' (first | (with_reducible assumption) | ((with_reducible (change cx_I (sx_uf _ _ _ _, _))); refine cx_I_uf rfl rfl ?_ ?_ ?_) | ((with_reducible (change cx_I (_, sx_ua _ _ _ _, _))); refine cx_I_ua rfl rfl ?_ ?_ ?_) | ((with_reducible (change cx_I (_, sx_ua _ 16 _ _, _))); refine cx_I_ari ?_ ?_ ?_) | ((with_reducible (change cx_I (sx_uf _ 11 6 _, _))); refine cx_I_ufA rfl ?_ ?_ ?_ ?_) | (with_reducible exact cx_F_refl _ _) | ((with_reducible (change cx_F _ _ (sx_uf _ _ _ _, _))); refine cx_F_uf rfl ?_) | ((with_reducible (change cx_F _ _ (_, sx_ua _ _ _ _, _))); refine cx_F_ua rfl ?_) | ((with_reducible (change cx_I (_, sx_cpy _ _ _ _ _ _, _))); refine cx_I_cpy rfl rfl rfl (by decide) ?_) | ((with_reducible (change cx_F _ _ (_, sx_cpy _ _ _ _ _ _, _))); refine cx_F_cpy rfl ?_) | ((with_reducible (change cx_F _ _ _)); refine cx_F_step (by assumption) rfl ?_) | ((with_reducible (change rf_f _ _ (sx_uf _ 66 _ _, _))); refine rf_f_uf rfl ?_) | ((with_reducible (change rf_f _ _ _)); exact (fun _ _ => rfl)) | ((with_reducible (change rf_f _ _ (_, sx_ua _ _ _ _, _))); refine rf_f_ua ?_) | ((with_reducible (change rf_f _ _ _)); assumption) | ((with_reducible (change rf_f _ _ _)); refine rf_f_step (by assumption) rfl ?_) | ((with_reducible (change rf_f _ _ _)); refine rf_f_F (by assumption) rfl ?_) | ((with_reducible (change px_g1 _ _ _ (_, sx_ua _ _ _ _, _))); refine px_g1_ua rfl (by omega) ?_) | ((with_reducible (change px_g1 _ _ _ _)); exact px_g1_refl _ _ _) | ((with_reducible (change px_g1 _ _ _ _)); assumption) | ((with_reducible (change sx_ua _ _ _ _ _ = _)); refine px_a_ua rfl ?_) | ((with_reducible (change px_RT _ _ _ (sx_uf _ _ _ _, _))); refine px_RT_uf ?_) | ((with_reducible (change px_RT _ _ _ (_, sx_ua _ 69 _ _, _))); refine px_RT_up (by assumption) (by assumption) (by assumption) (by assumption) (by assumption) (by omega) (px_bl_st (by assumption) (by omega)) (by omega)) | ((with_reducible (change px_RT _ _ _ (_, sx_ua _ _ _ _, _))); refine px_RT_ua rfl ?_) | ((with_reducible (change px_RT _ _ 0 _)); exact px_RT_0) | ((with_reducible (change px_RT _ _ _ _)); assumption) | ((with_reducible (change px_RT _ _ _ _)); refine px_RT_F (by assumption) rfl rfl rfl ?_) | ((with_reducible (change px_REx _ _ _)); exact px_REx_mk (by assumption) (by assumption) (by omega) (by omega)) | ((with_reducible (change (_ : sx_S).1 _ _ = _)); refine px_f_F (by assumption) rfl ?_) | ((with_reducible (change (_ : sx_S).2.1 _ = _)); refine px_a_F (by assumption) rfl ?_) | ((with_reducible (change sx_uf _ _ _ _ _ _ = _)); refine px_f_uf rfl ?_) | ((with_reducible (change px_DT _ _ _ (sx_uf _ _ _ _, _))); refine px_DT_uf ?_) | ((with_reducible (change px_DT _ _ _ _)); assumption) | ((with_reducible (change px_DT _ _ _ _)); refine px_DT_F (by assumption) rfl rfl rfl ?_) | ((with_reducible (change px_TK _ _ (sx_uf _ _ _ _, _))); refine px_TK_uf rfl ?_) | ((with_reducible (change px_TK _ _ _)); assumption) | ((with_reducible (change px_TK _ _ _)); refine px_TK_F (by assumption) rfl rfl rfl rfl ?_) | ((with_reducible (change rf_A _ (sx_uf _ _ _ _, _))); refine rf_A_uf ?_) | ((with_reducible (change rf_A _ (_, sx_ua _ _ _ _, _))); refine rf_A_ua rfl ?_) | ((with_reducible (change rf_A _ _)); assumption) | ((with_reducible (change rf_A _ _)); refine rf_A_F (by assumption) rfl ?_) | ((with_reducible (change px_RQ _ _ (sx_uf _ _ _ _, _))); refine px_RQ_uf ?_) | ((with_reducible (change px_RQ _ _ (_, sx_ua _ _ _ _, _))); refine px_RQ_ua rfl ?_) | ((with_reducible (change px_RQ _ _ _)); assumption) | ((with_reducible (change px_RQ _ _ _)); refine px_RQ_F (by assumption) rfl ?_) | ((with_reducible (change rf_nt _ _ _)); assumption) | ((with_reducible (change rf_nt _ _ _)); exact rf_nt_refl _ _) | ((with_reducible (change rf_nt _ _ (sx_uf _ _ _ _, _))); refine rf_nt_uf ?_) | ((with_reducible (change rf_nt _ _ (_, sx_ua _ _ _ _, _))); refine rf_nt_ua (by (first | omega | (dsimp only at *; omega))) (by (first | omega | (dsimp only at *; omega))) ?_) | fail)
  repeat' (first | (with_reducible assumption) | ((with_reducible (change cx_I (sx_uf _ _ _ _, _))); refine cx_I_uf rfl rfl ?_ ?_ ?_) | ((with_reducible (change cx_I (_, sx_ua _ _ _ _, _))); refine cx_I_ua rfl rfl ?_ ?_ ?_) | ((with_reducible (change cx_I (_, sx_ua _ 16 _ _, _))); refine cx_I_ari ?_ ?_ ?_) | ((with_reducible (change cx_I (sx_uf _ 11 6 _, _))); refine cx_I_ufA rfl ?_ ?_ ?_ ?_) | (with_reducible exact cx_F_refl _ _) | ((with_reducible (change cx_F _ _ (sx_uf _ _ _ _, _))); refine cx_F_uf rfl ?_) | ((with_reducible (change cx_F _ _ (_, sx_ua _ _ _ _, _))); refine cx_F_ua rfl ?_) | ((with_reducible (change cx_I (_, sx_cpy _ _ _ _ _ _, _))); refine cx_I_cpy rfl rfl rfl (by decide) ?_) | ((with_reducible (change cx_F _ _ (_, sx_cpy _ _ _ _ _ _, _))); refine cx_F_cpy rfl ?_) | ((with_reducible (change cx_F _ _ _)); refine cx_F_step (by assumption) rfl ?_) | ((with_reducible (change rf_f _ _ (sx_uf _ 66 _ _, _))); refine rf_f_uf rfl ?_) | ((with_reducible (change rf_f _ _ _)); exact (fun _ _ => rfl)) | ((with_reducible (change rf_f _ _ (_, sx_ua _ _ _ _, _))); refine rf_f_ua ?_) | ((with_reducible (change rf_f _ _ _)); assumption) | ((with_reducible (change rf_f _ _ _)); refine rf_f_step (by assumption) rfl ?_) | ((with_reducible (change rf_f _ _ _)); refine rf_f_F (by assumption) rfl ?_) | ((with_reducible (change px_g1 _ _ _ (_, sx_ua _ _ _ _, _))); refine px_g1_ua rfl (by omega) ?_) | ((with_reducible (change px_g1 _ _ _ _)); exact px_g1_refl _ _ _) | ((with_reducible (change px_g1 _ _ _ _)); assumption) | ((with_reducible (change sx_ua _ _ _ _ _ = _)); refine px_a_ua rfl ?_) | ((with_reducible (change px_RT _ _ _ (sx_uf _ _ _ _, _))); refine px_RT_uf ?_) | ((with_reducible (change px_RT _ _ _ (_, sx_ua _ 69 _ _, _))); refine px_RT_up (by assumption) (by assumption) (by assumption) (by assumption) (by assumption) (by omega) (px_bl_st (by assumption) (by omega)) (by omega)) | ((with_reducible (change px_RT _ _ _ (_, sx_ua _ _ _ _, _))); refine px_RT_ua rfl ?_) | ((with_reducible (change px_RT _ _ 0 _)); exact px_RT_0) | ((with_reducible (change px_RT _ _ _ _)); assumption) | ((with_reducible (change px_RT _ _ _ _)); refine px_RT_F (by assumption) rfl rfl rfl ?_) | ((with_reducible (change px_REx _ _ _)); exact px_REx_mk (by assumption) (by assumption) (by omega) (by omega)) | ((with_reducible (change (_ : sx_S).1 _ _ = _)); refine px_f_F (by assumption) rfl ?_) | ((with_reducible (change (_ : sx_S).2.1 _ = _)); refine px_a_F (by assumption) rfl ?_) | ((with_reducible (change sx_uf _ _ _ _ _ _ = _)); refine px_f_uf rfl ?_) | ((with_reducible (change px_DT _ _ _ (sx_uf _ _ _ _, _))); refine px_DT_uf ?_) | ((with_reducible (change px_DT _ _ _ _)); assumption) | ((with_reducible (change px_DT _ _ _ _)); refine px_DT_F (by assumption) rfl rfl rfl ?_) | ((with_reducible (change px_TK _ _ (sx_uf _ _ _ _, _))); refine px_TK_uf rfl ?_) | ((with_reducible (change px_TK _ _ _)); assumption) | ((with_reducible (change px_TK _ _ _)); refine px_TK_F (by assumption) rfl rfl rfl rfl ?_) | ((with_reducible (change rf_A _ (sx_uf _ _ _ _, _))); refine rf_A_uf ?_) | ((with_reducible (change rf_A _ (_, sx_ua _ _ _ _, _))); refine rf_A_ua rfl ?_) | ((with_reducible (change rf_A _ _)); assumption) | ((with_reducible (change rf_A _ _)); refine rf_A_F (by assumption) rfl ?_) | ((with_reducible (change px_RQ _ _ (sx_uf _ _ _ _, _))); refine px_RQ_uf ?_) | ((with_reducible (change px_RQ _ _ (_, sx_ua _ _ _ _, _))); refine px_RQ_ua rfl ?_) | ((with_reducible (change px_RQ _ _ _)); assumption) | ((with_reducible (change px_RQ _ _ _)); refine px_RQ_F (by assumption) rfl ?_) | fail)
  all_goals (first | trivial | omega | (dsimp only at *; omega) | (simp only [sx_uf_if, sx_ua_if, sx_w_t, true_and, and_true, and_self, and_false, false_and, if_true, if_false, reduceIte] at *; omega) | (refine rf_nt_ua (by omega) (by omega) ?_; assumption) | (refine rf_nk_mk ?_ ?_ ?_ ?_ <;> (simp only [sx_uf_if, sx_ua_if, sx_w_t, true_and, and_true, and_self, and_false, false_and, if_true, if_false, reduceIte] at *; omega)) | (subst_vars; dsimp only; rw [sx_ua_ne (by decide), sx_ua_ne (by decide), sx_ua_ne (by decide), sx_ua_ne (by decide), sx_ua_same]; exact if_pos (by simp only [sx_uf_if, sx_ua_if, sx_w_t, true_and, and_true, and_self, and_false, false_and, if_true, if_false, reduceIte] at *; omega)) | skip)

theorem c_q_node {sL : Nat} {sx : Nat → Int32} (hsL : sL ≤ 3072) (d : Nat) (hd : 2 ≤ d) : ∀ (a0 a1 : Int) (s : sx_S) (K : Int → sx_S → Prop), cx_I s → (-2147483648 ≤ a0 ∧ a0 ≤ 2147483647) → (0 ≤ a1 ∧ a1 ≤ 241) → (s.1 66 12 ≤ 599) → (∀ (z : Int) (t : sx_S), cx_I t → cx_F [(66, 66), (74, 84)] s t → (z = s.1 66 12) → (t.1 66 12 = s.1 66 12 + 1) → (rf_f [12] s t) → (t.1 66 7 = s.1 66 7 ∧ t.1 66 8 = s.1 66 8 ∧ t.1 66 9 = s.1 66 9 ∧ t.1 66 33 = s.1 66 33 ∧ t.1 66 24 = s.1 66 24) → (rf_nt (s.1 66 12) s t) → (rf_nk t z a0) → (t.2.1 75 z.toNat = a1) → K z t) → sx_C sL sx d 161 [.inr (.inl 66), .inl a0, .inl a1] s K := by
  intro a0 a1 s K hI p0 p1 p2 hK
  obtain ⟨d, rfl⟩ : ∃ e, d = e + 2 := ⟨d - 2, by omega⟩
  exact sx_meth (wr := true) (n := 400) hsL (e := eX12_node) rfl (w_q_node (Q := fun _ _ _ => False)  hI p0 p1 p2 hK)
