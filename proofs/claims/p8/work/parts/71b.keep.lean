section
/-! ===== the reference: keep, and what solving leaves of the solutions ===== -/
/-- the bits: just those below k that G says -/
def vr_bg (b k : Int) (G : Nat → Prop) : Prop := (0 ≤ b ∧ b ≤ 15) ∧ ∀ j : Nat, j < 4 → (rf_bt b (j : Int) ↔ (j : Int) < k ∧ G j)
theorem vr_bg.bg {b k : Int} {G : Nat → Prop} (h : vr_bg b k G) : rf_bg b k G := ⟨h.1, fun j hj q => (h.2 j hj).mp q⟩
theorem vr_bg_0 (G : Nat → Prop) : vr_bg 0 0 G := ⟨by omega, fun j hj => ⟨fun q => absurd q (rf_bitsZ ⟨j, hj⟩), fun q => by have := q.1; omega⟩⟩
theorem vr_bg_s {b k c v y : Int} {G : Nat → Prop} (hk : 0 ≤ k ∧ k ≤ 3) (h : vr_bg b k G) (hc : (c = 0 ∧ ¬ G k.toNat) ∨ (c = sx_b (fun x y => x <<< (y &&& 31)) 1 k ∧ G k.toNat)) (hv : v = sx_b (fun x y => x ||| y) b c) (hy : y = k + 1) : vr_bg v y G := by
  obtain ⟨⟨h1, h2⟩, h3⟩ := h
  have eb : ((b.toNat : Nat) : Int) = b := by omega
  have ek : ((k.toNat : Nat) : Int) = k := by omega
  rcases hc with ⟨rfl, hG⟩ | ⟨rfl, hG⟩
  · have e := rf_bits0 ⟨b.toNat, by omega⟩
    dsimp only at e
    rw [eb] at e
    rw [hv, e]
    refine ⟨⟨h1, h2⟩, fun j hj => ?_⟩
    rw [h3 j hj]
    constructor
    · rintro ⟨z1, z2⟩
      exact ⟨by omega, z2⟩
    · rintro ⟨z1, z2⟩
      refine ⟨?_, z2⟩
      have : (j : Int) ≠ k := fun q => by
        rw [show k.toNat = j by omega] at hG
        exact hG z2
      omega
  · have e := fun j => rf_bits1 ⟨b.toNat, by omega⟩ ⟨k.toNat, by omega⟩ j
    dsimp only at e
    rw [eb, ek] at e
    rw [hv]
    refine ⟨(e 0).1, fun j hj => ?_⟩
    have e2 := (e ⟨j, hj⟩).2
    constructor
    · intro q
      rcases e2.mp q with z | z
      · have := (h3 j hj).mp z
        exact ⟨by omega, this.2⟩
      · have z2 : j = k.toNat := z
        rw [z2]
        exact ⟨by omega, hG⟩
    · rintro ⟨z1, z2⟩
      refine e2.mpr ?_
      by_cases cj : (j : Int) = k
      · exact Or.inr (show j = k.toNat by omega)
      · exact Or.inl ((h3 j hj).mpr ⟨by omega, z2⟩)
theorem c_v_keep {sL : Nat} {sx : Nat → Int32} (hsL : sL ≤ 3072) (d : Nat) (hd : 4 ≤ d) : ∀ (m row b : Int) (s : sx_S) (K : Int → sx_S → Prop), cx_I s → (0 ≤ m ∧ m < s.1 66 61) → s.1 66 61 ≤ 2990 → s.1 66 50 ≤ 59990 → s.1 66 56 ≤ 119980 → s.1 66 64 ≤ 19990 → (0 ≤ row ∧ row + s.2.1 108 m.toNat ≤ s.1 66 56) → s.2.1 109 m.toNat + s.2.1 108 m.toNat ≤ s.1 66 64 → (0 ≤ b ∧ b ≤ 15) → (0 ≤ s.1 66 70 ∧ s.1 66 70 ≤ 1000) → (∀ (z : Int) (t u : sx_S) (kf : Nat → Nat) (n : Nat), rf_KW s u (fun q => s.2.1 105 (row + (q : Int)).toNat) (fun q => s.2.1 110 (s.2.1 109 m.toNat + (q : Int)).toNat) kf n → (∀ i, i < n → ((kf i : Nat) : Int) < s.2.1 108 m.toNat ∧ rf_bt b ((kf i : Nat) : Int)) → (∀ i j, i < n → j < n → kf i = kf j → i = j) → (∀ j : Nat, (j : Int) < s.2.1 108 m.toNat → rf_bt b (j : Int) → ∃ i, i < n ∧ kf i = j) → ((n : Int) ≤ s.2.1 108 m.toNat ∧ ((∃ j : Nat, (j : Int) < s.2.1 108 m.toNat ∧ ¬ rf_bt b (j : Int)) → (n : Int) < s.2.1 108 m.toNat)) → rf_AS u t m row (s.1 66 50) (-1) → rf_KC s t → K z t) → sx_C sL sx d 193 [.inr (.inl 66), .inl m, .inl row, .inl b] s K := by
  intro m row b s K hI hm h61 h50 h56 h64 hrow hty hb h70 hK
  obtain ⟨d, rfl⟩ : ∃ e, d = e + 2 := ⟨d - 2, by omega⟩
  have r108 := hI.arr 108 (by decide) rfl m.toNat
  have r109 := hI.arr 109 (by decide) rfl m.toNat
  have r61 := hI.fld 66 61 (by decide) rfl
  have r50 := hI.fld 66 50 (by decide) rfl
  have r56 := hI.fld 66 56 (by decide) rfl
  have r64 := hI.fld 66 64 (by decide) rfl
  refine sx_methL (wr := true) (n := 400) (n' := 400) (stop := [(29, [0, 1, 2, 3, 4, 5, 6])]) (fun nn pc ls u => (pc = 29 ∧ ∃ (x4 x5 x6 : Int) (kf : Nat → Nat) (n : Nat), ls = [(0, .inr (.inl 66)), (1, .inl m), (2, .inl row), (3, .inl b), (4, .inl x4), (5, .inl x5), (6, .inl x6)] ∧ x4 = s.1 66 61 ∧ x5 = s.1 66 50 ∧ rf_KW s u (fun q => s.2.1 105 (row + (q : Int)).toNat) (fun q => s.2.1 110 (s.2.1 109 m.toNat + (q : Int)).toNat) kf n ∧ rf_KC s u ∧ (0 ≤ x6 ∧ x6 ≤ s.2.1 108 m.toNat) ∧ (∀ i, i < n → ((kf i : Nat) : Int) < x6 ∧ rf_bt b ((kf i : Nat) : Int)) ∧ (∀ i j, i < n → j < n → kf i = kf j → i = j) ∧ (∀ j : Nat, (j : Int) < x6 → rf_bt b (j : Int) → ∃ i, i < n ∧ kf i = j) ∧ ((n : Int) ≤ x6 ∧ ((∃ j : Nat, (j : Int) < x6 ∧ ¬ rf_bt b (j : Int)) → (n : Int) < x6)) ∧ nn = (4 - x6).toNat)) hsL (e := eX12_keep) rfl ?_ ?_
  · refine w_keep (PN := fun z t => cx_I t ∧ cx_F [(66, 66), (108, 109), (111, 111), (124, 124)] s t ∧ z = s.1 66 61 ∧ t.1 66 61 = s.1 66 61 + 1 ∧ rf_f [61] s t ∧ rf_ag 108 111 (s.1 66 61) s t ∧ t.2.1 108 z.toNat = 0 ∧ t.2.1 109 z.toNat = s.1 66 64 ∧ t.2.1 111 z.toNat = 0 ∧ rf_KC s t) (PM := fun z t z2 t2 => cx_I t2 ∧ cx_F [(66, 66), (100, 103)] t t2 ∧ z2 = t.1 66 50 ∧ t2.1 66 50 = t.1 66 50 + 1 ∧ rf_f [50] t t2 ∧ rf_ag 100 103 (t.1 66 50) t t2 ∧ rf_mk t2 z2 3 z) ?_ ?_ ?_ ?_
    · intro K' hK'
      exact c_r_newMetaC hsL (d + 1) (by omega) s K' hI (by omega) (fun z t c1 c2 c3 c4 c5 c6 c7 c8 c9 c10 => hK' z t ⟨c1, c2, c3, c4, c5, c6, c7, c8, c9, c10⟩)
    · rintro z t ⟨c1, c2, c3, c4, c5, c6, c7, c8, c9, c10⟩ K' hK'
      have := c5 50 rfl
      exact c_r_make hsL (d + 1) (by omega) 3 z t K' c1 (by omega) (by omega) (by omega) (fun z2 t2 e1 e2 e3 e4 e5 e6 e7 => hK' z2 t2 ⟨e1, e2, e3, e4, e5, e6, e7⟩)
    · rintro z t z2 t2 ⟨c1, c2, c3, c4, c5, c6, c7, c8, c9, c10⟩ ⟨e1, e2, e3, e4, e5, e6, e7⟩
      have := c5 50 rfl
      exact ⟨e1, by omega⟩
    · rintro z t z2 t2 ⟨c1, c2, c3, c4, c5, c6, c7, c8, c9, c10⟩ ⟨e1, e2, e3, e4, e5, e6, e7⟩ w hw
      have := c5 50 rfl
      exact ⟨_, rfl, z, z2, 0, fun _ => 0, 0, rfl, c3, by omega, rf_KW_0 r61.1 r50.1 c2 c3 c4 c5 c6 c7 c8 c9 e1 e2 e3 e4 e5 e6 e7 hw, rf_KC_same (by show sx_ua t2.2.1 104 z2.toNat w 124 = t.2.1 124; rw [sx_ua_ne (by decide)]; exact (e2.same 124 rfl).2) c10, by omega, fun i hi => absurd hi (Nat.not_lt_zero _), fun i j hi => absurd hi (Nat.not_lt_zero _), fun j hj => absurd hj (by omega), ⟨by omega, fun ⟨j, hj, _⟩ => by omega⟩, rfl⟩
  · rintro nn pc ls u ⟨rfl, x4, x5, x6, kf, n, rfl, hx4, hx5, hW, hC, h6, hkf, hki, hkc, ⟨hn1, hn2⟩, rfl⟩
    have hW2 := hW
    obtain ⟨⟨b1, b2, b3⟩, ⟨c1, c2, c3, c4⟩, ⟨d1, d2, d3, d4, d5⟩, _, ⟨f1, f2, f3⟩, _⟩ := hW2
    have e108 : u.2.1 108 m.toNat = s.2.1 108 m.toNat := d3 108 _ (by omega) (by omega) (by omega)
    have e109 : u.2.1 109 m.toNat = s.2.1 109 m.toNat := d3 109 _ (by omega) (by omega) (by omega)
    have e70 := b3 70 rfl
    refine w_keep_29 (PA := fun t => s.2.1 108 m.toNat ≤ x6 ∧ rf_AS u t m row x5 (-1)) (PT := fun t => x6 < s.2.1 108 m.toNat ∧ cx_I t ∧ cx_F [(66, 66), (108, 108), (110, 110)] u t ∧ rf_f [64] u t ∧ t.1 66 64 = u.1 66 64 + 1 ∧ rf_ag 110 110 (u.1 66 64) u t ∧ t.2.1 110 (u.1 66 64).toNat = s.2.1 110 (s.2.1 109 m.toNat + x6).toNat ∧ rf_ro 108 108 x4 u t ∧ t.2.1 108 x4.toNat = u.2.1 108 x4.toNat + 1) b1 (by omega) (by omega) hb (by omega) (by omega) (by omega) (fun _ => by omega) ?_ ?_ ?_ ?_ ?_ ?_
    · intro q K' hK'
      exact c_r_assign hsL (d + 1) (by omega) m row x5 (-1) u K' b1 (by omega) (by omega) (by omega) (by omega) (by omega) (fun z t g1 g2 g3 g4 g5 g6 => hK' z t ⟨by omega, g1, g2, g3, g4, g5, g6⟩)
    · rintro t ⟨ex6, ht⟩
      rw [hx5] at ht
      exact hK 0 t u kf n hW (fun i hi => ⟨by have := (hkf i hi).1; omega, (hkf i hi).2⟩) hki (fun j hj => hkc j (by omega)) ⟨by omega, fun ⟨j, j1, j2⟩ => by
        have := hn2 ⟨j, by omega, j2⟩
        omega⟩ ht (rf_KC_same (ht.2.1.same 124 rfl).2 hC)
    · intro q1 q2 y hy
      exact ⟨_, by omega, rfl, x4, x5, y, kf, n, rfl, hx4, hx5, hW, hC, by omega, fun i hi => ⟨by have := (hkf i hi).1; omega, (hkf i hi).2⟩, hki, fun j hj hb2 => hkc j (by have : (j : Int) ≠ x6 := (fun e => q2 (by rw [← e]; exact hb2)); omega) hb2, ⟨by omega, fun _ => by omega⟩, rfl⟩
    · intro q1 q2 v hv K' hK'
      have hv2 : v = s.2.1 110 (s.2.1 109 m.toNat + x6).toNat := by
        rw [hv, e109]
        exact d4 110 _ (by omega) (by omega) (by omega)
      have hr := hI.arr 110 (by decide) rfl (s.2.1 109 m.toNat + x6).toNat
      exact c_r_addType hsL (d + 1) (by omega) x4 v u K' b1 (by omega) (by omega) (by omega) (by rw [hx4, f1]; omega) (fun z t g1 g2 g3 g4 g5 g6 g7 g8 => hK' z t ⟨by omega, g1, g2, g3, g4, g5, by rw [g6]; exact hv2, g7, g8⟩)
    · rintro t ⟨g0, g1, g2, g3, g4, g5, g6, g7, g8⟩
      have := g3 56 rfl
      exact ⟨g1, by omega⟩
    · rintro q1 q2 t ⟨g0, g1, g2, g3, g4, g5, g6, g7, g8⟩ y v n' w hy hv hn' hw
      have q56 := g3 56 rfl
      have hv2 : v = s.2.1 105 (row + x6).toNat := by
        rw [hv, (g2.same 105 rfl).2]
        exact d2 105 _ (by omega) (by omega) (by omega)
      have ex : ((x6.toNat : Nat) : Int) = x6 := by omega
      refine ⟨_, by omega, rfl, x4, x5, y, (fun i => if i = n then x6.toNat else kf i), n + 1, rfl, hx4, hx5, rf_KW_s (k := x6.toNat) r61.1 r56.1 r64.1 hx4 hW g1 g2 g3 g4 g5 g6 g7 g8 (by rw [ex]) (by rw [ex]; exact hv2) (by rw [hv]; exact g1.arr 105 (by decide) rfl _) hn' hw (by omega), rf_KC_same (by show sx_ua t.2.1 105 n'.toNat v 124 = u.2.1 124; rw [sx_ua_ne (by decide)]; exact (g2.same 124 rfl).2) hC, by omega, fun i hi => ?_, fun i j hi hj e => ?_, fun j hj hb2 => ?_, ⟨by push_cast; omega, fun ⟨j, j1, j2⟩ => ?_⟩, rfl⟩
      · dsimp only
        by_cases c : i = n
        · rw [if_pos c, ex]
          exact ⟨by omega, q2⟩
        · rw [if_neg c]
          have := hkf i (by omega)
          exact ⟨by omega, this.2⟩
      · dsimp only at e
        by_cases ci : i = n
        · by_cases cj : j = n
          · omega
          · rw [if_pos ci, if_neg cj] at e
            have := (hkf j (by omega)).1
            omega
        · by_cases cj : j = n
          · rw [if_neg ci, if_pos cj] at e
            have := (hkf i (by omega)).1
            omega
          · rw [if_neg ci, if_neg cj] at e
            exact hki i j (by omega) (by omega) e
      · try dsimp only
        by_cases c : (j : Int) = x6
        · exact ⟨n, by omega, by rw [if_pos rfl]; omega⟩
        · obtain ⟨i, i1, i2⟩ := hkc j (by omega) hb2
          exact ⟨i, by omega, by rw [if_neg (by omega)]; exact i2⟩
      · have hj : (j : Int) ≠ x6 := fun e => by
          rw [e] at j2
          exact j2 q2
        have := hn2 ⟨j, by omega, j2⟩
        push_cast
        omega
/-- both sides are the same -/
def vr_E (AR : Nat → List Int) (A : rf_N) (yA : rf_Y) (B : rf_N) (yB : rf_Y) (L : Int) (th : Int → rf_N) : Prop := vr_V th AR A yA L = vr_V th AR B yB L
/-- what solving an equation, or a part of it, leaves -/
def vr_PU (s t : sx_S) (g : rf_Gh) (AR : Nat → List Int) (z : Int) (p : Nat) (P : (Int → rf_N) → Prop) : Prop := (0 ≤ z ∧ z ≤ 1) ∧ cx_I t ∧ rf_FS s t ∧ (z = 0 → vr_N (vr_S s g AR) P) ∧ (z ≠ 0 → ∃ (g' : rf_Gh) (AR' : Nat → List Int), rf_MI (t.1 66 71) (t.1 66 58) t g' ∧ rf_EX (s.1 66 71) (s.1 66 58) s t ∧ rf_EG s g g' ∧ (rf_ph t g' ≤ 1150 ∧ rf_RM 0 t ∧ rf_qu t ≤ rf_qu s) ∧ (s.1 66 71 ≤ t.1 66 71 ∧ t.1 66 71 ≤ s.1 66 71 + ((max 1 (rf_qu s - rf_qu t) * p : Nat) : Int)) ∧ (s.1 66 58 ≤ t.1 66 58 ∧ t.1 66 58 ≤ s.1 66 58 + ((max 1 (rf_qu s - rf_qu t) * p : Nat) : Int)) ∧ (t.1 66 70 = s.1 66 70 → rf_NC s t) ∧ (t.1 66 70 ≠ s.1 66 70 → rf_qu t < rf_qu s) ∧ vr_G t g' AR' ∧ (∀ j : Nat, (j : Int) < s.1 66 50 → AR' j = AR j) ∧ vr_Y (vr_S s g AR) (vr_S t g' AR') P)
theorem vr_PU_same {s : sx_S} {g : rf_Gh} {AR : Nat → List Int} {p : Nat} {P : (Int → rf_N) → Prop} (hI : cx_I s) (hM : rf_MI (s.1 66 71) (s.1 66 58) s g) (hp : rf_ph s g ≤ 1150) (hR : rf_RM 0 s) (hV : vr_G s g AR) (hP : ∀ th, vx_So (vr_S s g AR) th → P th) : vr_PU s s g AR 1 p P := ⟨by omega, hI, rf_FS_refl s, fun q => absurd q (by decide), fun _ => ⟨g, AR, hM, rf_EX_refl _ _ _, rf_EG_refl _ _, ⟨hp, hR, Nat.le_refl _⟩, ⟨by omega, by omega⟩, ⟨by omega, by omega⟩, fun _ => ⟨rfl, fun _ _ => rfl⟩, fun q => absurd rfl q, hV, fun _ _ => rfl, vr_Y_refl hP⟩⟩
theorem vr_PU_1 {s t : sx_S} {g g' : rf_Gh} {AR AR' : Nat → List Int} {p : Nat} {P : (Int → rf_N) → Prop} (hI : cx_I t) (hF : rf_FS s t) (hM : rf_MI (t.1 66 71) (t.1 66 58) t g') (hE : rf_EX (s.1 66 71) (s.1 66 58) s t) (hG : rf_EG s g g') (hp : rf_ph t g' ≤ 1150) (hR : rf_RM 0 t) (hq : rf_qu t < rf_qu s) (h71 : t.1 66 71 = s.1 66 71) (h58 : t.1 66 58 = s.1 66 58) (h70 : t.1 66 70 ≠ s.1 66 70) (hV : vr_G t g' AR') (hA : ∀ j : Nat, (j : Int) < s.1 66 50 → AR' j = AR j) (hY : vr_Y (vr_S s g AR) (vr_S t g' AR') P) : vr_PU s t g AR 1 p P := ⟨by omega, hI, hF, fun q => absurd q (by decide), fun _ => ⟨g', AR', hM, hE, hG, ⟨hp, hR, by omega⟩, ⟨by omega, by omega⟩, ⟨by omega, by omega⟩, fun q => absurd q h70, fun _ => hq, hV, hA, hY⟩⟩
theorem vr_PU_0 {s t : sx_S} {g : rf_Gh} {AR : Nat → List Int} {p : Nat} {P : (Int → rf_N) → Prop} (hI : cx_I t) (hF : rf_FS s t) (hN : vr_N (vr_S s g AR) P) : vr_PU s t g AR 0 p P := ⟨by omega, hI, hF, fun _ => hN, fun q => absurd rfl q⟩
/-- a node before an unknown: its value -/
theorem vr_E_3 {s : sx_S} {g : rf_Gh} {AR : Nat → List Int} {N : Int → rf_T → Prop} {A : rf_N} {y : rf_Y} {x : rf_T} {W : List Nat} {p : Nat} {i b m L : Int} (k : rf_CL s g N A y x W p i b) (h3 : s.2.1 100 i.toNat = 3) (em : m = s.2.1 101 i.toNat) (t : vr_t s AR A) {th : Int → rf_N} (hg : ∀ m, vx_on (th m)) : vr_V th AR A y L = vx_re (vx_ix ((List.range (rf_aa s m).toNat).map (rf_vo s y i)) L) (th m) := by
  obtain ⟨_, _, _, j, kk, u, f, n, eA, ej, k3, ek⟩ := rf_CL_3 k h3
  subst eA
  rw [← ek] at em
  subst em
  rcases t.2 with ⟨c, _⟩ | ⟨_, hp⟩ | ⟨c, _⟩
  · omega
  · rw [vr_V_call hg k3, vr_xs hp ej]
  · omega
/-- what has been called is made -/
theorem vr_vo_in {s : sx_S} {g : rf_Gh} {N : Int → rf_T → Prop} {A : rf_N} {y : rf_Y} {x : rf_T} {W : List Nat} {p : Nat} {i b m : Int} (k : rf_CL s g N A y x W p i b) (h3 : s.2.1 100 i.toNat = 3) (em : m = s.2.1 101 i.toNat) {q : Nat} (hq : (q : Int) < rf_aa s m) : 0 ≤ rf_vo s y i q ∧ rf_vo s y i q < s.1 66 58 := by
  obtain ⟨j, kk, u, f, n, eA, e1, e2, e3, e4, e5, e6, e7, e8⟩ := rf_CL_node k
  rw [e2, e4] at h3
  rw [e2, e5] at em
  subst em
  rcases e8 with ⟨c, _⟩ | ⟨c, hx, w, hw, _⟩
  · omega
  · obtain ⟨h1, h2, h4, h5⟩ := rf_Hn_3 hw h3
    obtain ⟨T, t1, t2⟩ := h5 q hq
    have := (k.1.2.2.2.2.2.1 _ T t2).1
    have hvo : rf_vo s y i q = rf_look y (rf_rv1 s j q) := by
      unfold rf_vo rf_rv1
      rw [e2]
    rw [hvo]
    exact this
end
section
/-! ===== the reference: meet, and the solutions ===== -/
theorem c_v_meet {sL : Nat} {sx : Nat → Int32} (hsL : sL ≤ 3072) (d : Nat) (hd : 120 ≤ d) : ∀ (NA NB : Int → rf_T → Prop) (A B : rf_N) (yA yB : rf_Y) (x : rf_T) (WA WB : List Nat) (pa pb p : Nat) (a ba b bb : Int) (s : sx_S) (g : rf_Gh) (AR : Nat → List Int) (K : Int → sx_S → Prop), cx_I s → rf_MI (s.1 66 71) (s.1 66 58) s g → rf_ph s g ≤ 1150 → rf_RM 0 s → vr_G s g AR → vr_t s AR A → vr_t s AR B → rf_CL s g NA A yA x WA pa a ba → rf_CL s g NB B yB x WB pb b bb → s.2.1 100 a.toNat = 3 → s.2.1 100 b.toNat = 3 → s.2.1 101 a.toNat = s.2.1 101 b.toNat → s.2.1 111 (s.2.1 101 a.toNat).toNat = 0 → (∀ z t, vr_PU s t g AR z p (vr_E AR A yA B yB (s.1 66 58)) → K z t) → sx_C sL sx d 196 [.inr (.inl 66), .inl a, .inl ba, .inl b, .inl bb] s K := by
  intro NA NB A B yA yB x WA WB pa pb p a ba b bb s g AR K hI hM hph hR hV tA tB kA kB hA3 hB3 hm ho hK
  obtain ⟨d, rfl⟩ : ∃ e, d = e + 2 := ⟨d - 2, by omega⟩
  have pA := rf_CL_b hI kA
  have pB := rf_CL_b hI kB
  obtain ⟨m0, m1, _⟩ := rf_CL_3 kA hA3
  obtain ⟨n0, n1, _⟩ := rf_CL_3 kB hB3
  obtain ⟨mm, hmm⟩ : ∃ m, m = s.2.1 101 a.toNat := ⟨_, rfl⟩
  have hmm2 : mm = s.2.1 101 b.toNat := hmm.trans hm
  have hPE : ∀ th, vx_So (vr_S s g AR) th → (vx_re (vx_ix ((List.range (rf_aa s mm).toNat).map (rf_vo s yA a)) (s.1 66 58)) (th mm) = vx_re (vx_ix ((List.range (rf_aa s mm).toNat).map (rf_vo s yB b)) (s.1 66 58)) (th mm) ↔ vr_E AR A yA B yB (s.1 66 58) th) := fun th hS => by
    unfold vr_E
    rw [vr_E_3 kA hA3 hmm tA (fun m => (hS.1 m).1), vr_E_3 kB hB3 hmm2 tB (fun m => (hS.1 m).1)]
  rw [← hm] at n1
  rw [← hmm] at m0 m1 n1 ho
  have har : rf_aa s mm = s.2.1 108 mm.toNat := rfl
  rw [har] at m1 n1
  have r108 := hI.arr 108 (by decide) rfl mm.toNat
  have r56 := hI.fld 66 56 (by decide) rfl
  have r61 := hI.fld 66 61 (by decide) rfl
  have yA4 := kA.1.2.2.2
  have yB4 := kB.1.2.2.2
  obtain ⟨q1, q2, q3, q4, q5, q6⟩ := hR
  have dA : rf_dp yA ≤ 100 := by have := yA4.2.2.2; omega
  have dB : rf_dp yB ≤ 100 := by have := yB4.2.2.2; omega
  refine sx_methL (wr := true) (n := 400) (n' := 400) (stop := [(14, [0, 1, 2, 3, 4, 5, 6, 7])]) (fun nn pc ls v => (pc = 14 ∧ ∃ x5 x6 x7 : Int, ls = [(0, .inr (.inl 66)), (1, .inl a), (2, .inl ba), (3, .inl b), (4, .inl bb), (5, .inl x5), (6, .inl x6), (7, .inl x7)] ∧ s = v ∧ x6 = mm ∧ vr_bg x5 x7 (fun q => rf_vo s yA a q = rf_vo s yB b q) ∧ (0 ≤ x7 ∧ x7 ≤ s.2.1 108 mm.toNat) ∧ nn = (4 - x7).toNat)) hsL (e := eX12_meet) rfl ?_ ?_
  · exact w_meet hI pA (fun v hv => ⟨_, rfl, 0, v, 0, rfl, rfl, by rw [hv, hmm], vr_bg_0 _, by omega, rfl⟩)
  · rintro nn pc ls v ⟨rfl, x5, x6, x7, rfl, rfl, hx6, hbg, h7, rfl⟩
    subst hx6
    refine w_vmeet_14 (w1 := rf_vo s yA a x7.toNat) (w2 := rf_vo s yB b x7.toNat) (PA := fun z t => (s.2.1 108 x6.toNat ≤ x7 ∧ x5 ≠ sx_w true (sx_b (fun x y => x <<< (y &&& 31)) 1 (s.2.1 108 x6.toNat) - 1)) ∧ cx_I t ∧ cx_F [(66, 66), (105, 105)] s t ∧ rf_f [56] s t ∧ z = s.1 66 56 ∧ t.1 66 56 = s.1 66 56 + s.2.1 108 x6.toNat ∧ rf_ag 105 105 (s.1 66 56) s t ∧ (∀ k : Nat, (k : Int) < s.2.1 108 x6.toNat → t.2.1 105 (z + (k : Int)).toNat = rf_vo s yA a k)) (PP := fun t => vr_PU s t g AR 1 p (vr_E AR A yA B yB (s.1 66 58))) hI (by omega) hbg.1 (by omega) (rf_look_in hI yA4.1 (hI.arr 105 (by decide) rfl _)) (rf_look_in hI yB4.1 (hI.arr 105 (by decide) rfl _)) ?_ ?_ ?_ ?_ ?_ ?_ ?_
    · intro hx K' hK'
      exact c_r_varOf hsL 100 (d + 1) (by omega) yA a ba x7 s K' hI pA (by omega) (by omega) dA yA4.1 hK'
    · intro hx K' hK'
      exact c_r_varOf hsL 100 (d + 1) (by omega) yB b bb x7 s K' hI pB (by omega) (by omega) dB yB4.1 hK'
    · intro hx c v y hc hv hy
      exact ⟨_, by omega, rfl, v, x6, y, rfl, rfl, rfl, vr_bg_s (by omega) hbg hc hv hy, by omega, rfl⟩
    · intro hx hmk
      have ex7 : x7 = s.2.1 108 x6.toNat := by omega
      have h1 := (rf_bg_m (a := s.2.1 108 x6.toNat) r108 (by rw [← ex7]; exact hbg.bg)).mp hmk
      refine hK 1 s (vr_PU_same hI hM hph ⟨q1, q2, q3, q4, q5, q6⟩ hV (fun th hS => (hPE th hS).mp ?_))
      have : (List.range (rf_aa s x6).toNat).map (rf_vo s yA a) = (List.range (rf_aa s x6).toNat).map (rf_vo s yB b) := List.map_congr_left (fun q hq => by
        have hq := List.mem_range.mp hq
        exact ((hbg.2 q (by omega)).mp (h1 q (by omega))).2)
      rw [this]
    · intro hx hne K' hK'
      exact c_r_actual hsL 100 (d + 1) (by omega) yA a ba (s.2.1 108 x6.toNat) s K' hI pA (by omega) (by rw [hmm]) (by omega) (fun k hk => by omega) dA yA4.1 (fun z t c1 c2 c3 c4 c5 c6 c7 => hK' z t ⟨⟨hx, hne⟩, c1, c2, c3, c4, c5, c6, c7⟩)
    · rintro z t ⟨⟨hx, hne⟩, c1, c2, c3, c4, c5, c6, c7⟩ K' hK'
      have ex7 : x7 = s.2.1 108 x6.toNat := by omega
      obtain ⟨hE, hFS⟩ := rf_EX_row (nb := s.1 66 71) (ib := s.1 66 58) c2 c3 c6 (by omega)
      have hNC : rf_NC s t := rf_NC_F c2 rfl c3 rfl
      obtain ⟨z1, z2, z3, z4⟩ := rf_act_ok hM kA hA3 hmm ho c2 c3 c4 c5 c6 c7 r108.1 r56.1
      have e50 := c3 50 rfl
      have e58 := c3 58 rfl
      have e61 := c3 61 rfl
      have e64 := c3 64 rfl
      have e70 := c3 70 rfl
      have e71 := c3 71 rfl
      have t108 : t.2.1 108 = s.2.1 108 := (c2.same 108 rfl).2
      have eaa : rf_aa t x6 = s.2.1 108 x6.toNat := by
        unfold rf_aa
        rw [t108]
      have hMt : rf_MI (t.1 66 71) (t.1 66 58) t g := rf_NC_MI hE hNC (by omega) (by omega) hM
      have hnm : ∃ j : Nat, (j : Int) < s.2.1 108 x6.toNat ∧ ¬ rf_bt x5 (j : Int) := by
        have h1 := rf_bg_m (a := s.2.1 108 x6.toNat) r108 (by rw [← ex7]; exact hbg.bg)
        exact Classical.byContradiction (fun hcon => hne (h1.mpr (fun j hj => Classical.byContradiction (fun hb => hcon ⟨j, hj, hb⟩))))
      obtain ⟨j0, j1, j2⟩ := hnm
      obtain ⟨T0, t0⟩ := (hMt.1 x6 z1.1 (by omega)).1 ((s.2.1 108 x6.toNat).toNat - 1) (by rw [eaa]; omega)
      have hqu : rf_qu t = rf_qu s := rf_NC_qu hE hNC
      refine c_v_keep hsL (d + 1) (by omega) x6 z x5 t K' c1 (by omega) (by omega) (by omega) (by omega) (by omega) (by rw [t108]; rw [eaa] at z2; omega) (by have := t0.1.2; rw [t108]; omega) hbg.1 (by omega) (fun zz t2 u kf n hW hkf hki hkc hn hA hKC => ?_)
      have hkp := rf_MI_keep (nb := t.1 66 71) (ib := t.1 66 58) c1 hMt (by omega) (by rw [(c2.same 111 rfl).2]; exact ho) (by omega) z2 (fun q hq => Or.inl (z3 q hq)) z4 hW (fun i hi => (hkf i hi).1) hki (hn.2 ⟨j0, by rw [t108]; exact j1, j2⟩) hA
      obtain ⟨hE2, g', k1, k2, k3, k4, k5, k6⟩ := hkp
      have hVt : vr_G t g AR := vr_G_up hE (rf_EG_refl _ _) hNC (fun _ _ => rfl) hV
      obtain ⟨hnw, hG2⟩ := vr_keep (AR := AR) c1 hE2 hMt k1 k2 hVt (by omega) (by rw [(c2.same 111 rfl).2]; exact ho) z2 z4 hW (fun i hi => (hkf i hi).1) hki hA
      have eS : vr_S t g AR = vr_S s g AR := vr_S_NC hE hNC e50 hM
      rw [eS] at hnw
      have eaS : (vr_S s g AR).2.2.1 x6 = s.2.1 108 x6.toNat := vr_ar_at z1
      have hYs := vr_Y_cg (vr_W hI hV) hPE (vr_meet (L := s.1 66 58) (xs := (List.range (rf_aa s x6).toNat).map (rf_vo s yA a)) (ys := (List.range (rf_aa s x6).toNat).map (rf_vo s yB b)) (vr_W hI hV) hnw (by rw [vr_gl, eaS]; omega) (by rw [vr_gl, eaS]; omega) (fun i hi => by
        rw [eaS] at hi
        have w1 : ((List.range (rf_aa s x6).toNat).map (rf_vo s yA a))[i]? = some (rf_vo s yA a i) := vr_gr.mpr ⟨by omega, rfl⟩
        have w2 : ((List.range (rf_aa s x6).toNat).map (rf_vo s yB b))[i]? = some (rf_vo s yB b i) := vr_gr.mpr ⟨by omega, rfl⟩
        rw [w1, w2, vr_gm]
        constructor
        · rintro ⟨k, k1, k2⟩
          have := (hkf k k1).2
          rw [← k2] at this
          rw [((hbg.2 i (by omega)).mp this).2]
        · intro z
          have hb := (hbg.2 i (by omega)).mpr ⟨by omega, Option.some.inj z⟩
          obtain ⟨k, k1, k2⟩ := hkc i (by rw [t108]; exact hi) hb
          exact ⟨k, k1, by rw [k2]⟩))
      have hfs := rf_FS_KA hW hA
      obtain ⟨⟨_, _, b3⟩, _⟩ := hW
      obtain ⟨a1, a2, a3, a4, _⟩ := hA
      have f71 := b3 71 rfl
      have f58 := b3 58 rfl
      have f70 := b3 70 rfl
      have h71 := a3 71 rfl
      have h58 := a3 58 rfl
      refine hK' zz t2 (vr_PU_1 (AR := AR) a1 (rf_FS_trans hfs hFS) ?_ (rf_EX_trans hE2 hE (by omega) (by omega)) (rf_EG_trans hE k2 (rf_EG_refl _ _)) ?_ (k6 ?_) (by omega) (by omega) (by omega) (by omega) hG2 (fun j hj => vr_nA_lt j (by omega)) hYs)
      · rw [show t2.1 66 71 = t.1 66 71 by omega, show t2.1 66 58 = t.1 66 58 by omega]
        exact k1
      · have := rf_NC_ph (g := g) hE hNC
        omega
      · refine ⟨by omega, by omega, by omega, by omega, by omega, by omega⟩
    · intro t ht
      exact hK 1 t ht
end
