section
/-! ===== the reference: check ===== -/
theorem vk_ck_ok {sL : Nat} {sx : Nat → Int32} (hsL : sL ≤ 3072) {bb : Nat → Int} {nb mt : Int} {C M : List (Int × qx_T)} (hmt : mt ≤ 242) {Z d : Nat} (hZ : Z ≤ 1000) (hd : 10 * Z + 60 ≤ d) (ih : ∀ (n : rf_N) (n' : px_N) (Γ : List (Int × qx_T)) (r : Int) (s : sx_S) (K : Int → sx_S → Prop), cx_I s → rf_rt s n r → (rf_idx n).Nodup → (rf_rw s n).1 → (rf_ht n).1 ≤ Z → rf_CK s → s.1 66 40 = 0 → (2 ≤ s.1 66 9 ∧ s.1 66 9 + (rf_s1 n : Int) ≤ 5990) → (0 ≤ s.1 66 34 ∧ s.1 66 34 + ((rf_ht n).1 : Int) ≤ 58) → rf_RB s (9 * rf_s1 n) → px_E bb nb mt C M s → px_EV mt s Γ → px_is s n n' → px_tb mt n' → (∀ (z : Int) (t : sx_S), cx_I t → rf_FC s t (rf_al1 n) → (s.1 66 9 ≤ t.1 66 9 ∧ t.1 66 9 ≤ s.1 66 9 + (rf_s1 n : Int)) → rf_CB s t (9 * rf_s1 n) → (t.1 66 40 = 0 ∨ (0 ≤ t.1 66 41 ∧ t.1 66 41 ≤ 241)) → (0 ≤ z ∧ z ≤ 5999) → (t.1 66 40 = 0 → ∃ x, rf_is t x z ∧ rf_Rd t n x (rf_ga s (s.1 66 34).toNat) ∧ rf_CB s t (rf_cs (rf_mm t n)).1) → vk_C1 bb nb C M Γ (rf_ga s (s.1 66 34).toNat) n' t (rf_mm t n) z → K z t) → sx_C sL sx (d + 1) 171 [.inr (.inl 66), .inl r] s K) : ∀ (n : rf_N) (n' : px_N) (Γ : List (Int × qx_T)) (r : Int) (s : sx_S) (K : Int → sx_S → Prop), cx_I s → rf_rt s n r → (rf_idx n).Nodup → (rf_rw s n).1 → (rf_ht n).1 ≤ (Z + 1) → rf_CK s → s.1 66 40 = 0 → (2 ≤ s.1 66 9 ∧ s.1 66 9 + (rf_s1 n : Int) ≤ 5990) → (0 ≤ s.1 66 34 ∧ s.1 66 34 + ((rf_ht n).1 : Int) ≤ 58) → rf_RB s (9 * rf_s1 n) → px_E bb nb mt C M s → px_EV mt s Γ → px_is s n n' → px_tb mt n' → (∀ (z : Int) (t : sx_S), cx_I t → rf_FC s t (rf_al1 n) → (s.1 66 9 ≤ t.1 66 9 ∧ t.1 66 9 ≤ s.1 66 9 + (rf_s1 n : Int)) → rf_CB s t (9 * rf_s1 n) → (t.1 66 40 = 0 ∨ (0 ≤ t.1 66 41 ∧ t.1 66 41 ≤ 241)) → (0 ≤ z ∧ z ≤ 5999) → (t.1 66 40 = 0 → ∃ x, rf_is t x z ∧ rf_Rd t n x (rf_ga s (s.1 66 34).toNat) ∧ rf_CB s t (rf_cs (rf_mm t n)).1) → vk_C1 bb nb C M Γ (rf_ga s (s.1 66 34).toNat) n' t (rf_mm t n) z → K z t) → sx_C sL sx (d + 2) 171 [.inr (.inl 66), .inl r] s K := by
  intro n n' Γ r s K hI hn hnd hrw hht hCK h40 h9 h34 hRB hE hEV hpx htb hK
  cases n with
  | leaf => exact hrw.elim
  | inner j k uu f y =>
  obtain ⟨tg, tq, tv, f', y', rfl⟩ : ∃ a b c d e, n' = .inner a b c d e := by
    cases n' with
    | leaf => exact hpx.elim
    | inner a b c d e => exact ⟨a, b, c, d, e, rfl⟩
  obtain ⟨⟨hx1, hx2⟩, hx3, hx4⟩ := hpx
  obtain ⟨hb1, hb2, hb3⟩ := htb
  have hk0 : k.1 = 0 → tg = 0 ∧ qx_is s tq.2 (s.2.1 76 j) ∧ s.2.1 78 j = (qx_at tq.2 : Int) := fun q => by
    rcases hx2 with ⟨_, z⟩ | ⟨z, _⟩
    · exact z
    · omega
  have hkn : k.1 ≠ 0 → tg ≠ 0 := fun q => by
    rcases hx2 with ⟨z, _⟩ | ⟨_, z, _⟩
    · exact absurd z q
    · omega
  obtain ⟨hso, hsl, hsi⟩ := px_EV_so hEV
  have r12 := hI.fld 66 12 (by decide) rfl
  have r50 := hI.fld 66 50 (by decide) rfl
  have r56 := hI.fld 66 56 (by decide) rfl
  have r58 := hI.fld 66 58 (by decide) rfl
  have hn0 := hn
  obtain ⟨⟨m0, m1⟩, ⟨m2, m3⟩, m4, m5⟩ := hn
  have ej : r.toNat = j := by omega
  have hs1 : rf_s1 (.inner j k uu f y) = 1 + (rf_idx f).length := rfl
  rw [hs1] at h9 hRB
  obtain ⟨hnj, hnr⟩ := List.nodup_cons.mp hnd
  obtain ⟨hnf, hny, hnfy⟩ := List.nodup_append.mp hnr
  have hjf : j ∉ rf_idx f := fun q => hnj (List.mem_append_left _ q)
  have hrt : ∀ {u : sx_S} {g : rf_N} {i : Int}, cx_I u → rf_rt u g i → -1 ≤ i ∧ i ≤ 599 := fun {u} {g} {i} hu hg => by
    have h1 := rf_nd_rng hg
    have h2 := hu.fld 66 12 (by decide) rfl
    omega
  have hsle := rf_s1_le (f := f)
  have hRB2 := hRB
  obtain ⟨b1, b2, b3, b4⟩ := hRB2
  refine sx_methL (wr := true) (n := 400) (n' := 400) (stop := [(100, [0, 1, 2]), (158, [0, 1, 2, 3]), (177, [0, 1, 2, 3, 4]), (234, [0, 1, 2, 3]), (262, [0, 1, 2])]) (fun n pc ls u => (pc = 100 ∧ ∃ x2 : Int, ls = [(0, .inr (.inl 66)), (1, .inl r), (2, .inl x2)] ∧ (k.1 = 0 ∧ cx_I u ∧ ∃ z1 A, rf_F0 (s.1 66 34) s u (j :: rf_idx f) ∧ u.1 66 34 = s.1 66 34 + 1 ∧ u.2.1 82 j = z1 ∧ rf_vt u z1 A ∧ rf_is u A (s.2.1 76 j) ∧ rf_at A ≤ 5 ∧ s.1 66 9 ≤ u.1 66 9 ∧ u.1 66 9 ≤ s.1 66 9 + ((rf_idx f).length : Int) ∧ rf_CB s u (1 + 9 * (rf_idx f).length) ∧ (u.1 66 40 = 0 ∨ (0 ≤ u.1 66 41 ∧ u.1 66 41 ≤ 241)) ∧ (0 ≤ x2 ∧ x2 ≤ 5999) ∧ (u.1 66 40 = 0 → ∃ B, rf_is u B x2 ∧ rf_Rd u f B (z1 :: (rf_ga s (s.1 66 34).toNat)) ∧ rf_CB s u (1 + (rf_cs (rf_mm u f)).1)) ∧ s.1 66 58 ≤ z1 ∧ vk_C1 bb nb C M (tq :: Γ) (z1 :: (rf_ga s (s.1 66 34).toNat)) f' u (rf_mm u f) x2) ∧ n = 1) ∨ (pc = 158 ∧ ∃ (x2 x3 : Int) (g D : rf_N), ls = [(0, .inr (.inl 66)), (1, .inl r), (2, .inl x2), (3, .inl x3)] ∧ k.1 ≠ 0 ∧ (cx_I u ∧ rf_FC s u (j :: rf_idx D)) ∧ f = rf_snoc D g ∧ rf_rt u g x3 ∧ (0 ≤ x2 ∧ x2 ≤ 5999) ∧ (s.1 66 9 ≤ u.1 66 9 ∧ u.1 66 9 ≤ s.1 66 9 + ((rf_idx D).length : Int)) ∧ rf_CB s u (1 + 9 * (rf_idx D).length) ∧ (u.1 66 40 = 0 ∨ (0 ≤ u.1 66 41 ∧ u.1 66 41 ≤ 241)) ∧ (u.1 66 40 = 0 → ∃ w, rf_is u w x2 ∧ rf_Ap s u j D (rf_ga s (s.1 66 34).toNat) 0 w) ∧ (∃ D' g', f' = px_snoc D' g' ∧ px_is s g g' ∧ vk_C2 bb nb C M Γ (rf_ga s (s.1 66 34).toNat) (.inner tg tq tv f' y') tq.1 u (rf_rk u j) (u.2.1 82 j) (rf_mm u D) D' x2) ∧ n = 10 * rf_len g + 5) ∨ (pc = 177 ∧ ∃ (x2 x3 x4 : Int) (gj : Nat) (gk : Int × Int) (gu : Unit) (gf gx D : rf_N), ls = [(0, .inr (.inl 66)), (1, .inl r), (2, .inl x2), (3, .inl x3), (4, .inl x4)] ∧ k.1 ≠ 0 ∧ (cx_I u ∧ rf_FC s u (j :: (rf_idx D ++ (gj :: rf_idx gf)))) ∧ f = rf_snoc D (.inner gj gk gu gf gx) ∧ rf_rt u (.inner gj gk gu gf gx) x3 ∧ (0 ≤ x2 ∧ x2 ≤ 5999) ∧ (s.1 66 9 ≤ u.1 66 9 ∧ u.1 66 9 ≤ s.1 66 9 + ((rf_idx D).length : Int) + (1 + (rf_idx gf).length : Int)) ∧ rf_CB s u (1 + 9 * (rf_idx D).length + 9 * (1 + (rf_idx gf).length)) ∧ (u.1 66 40 = 0 ∨ (0 ≤ u.1 66 41 ∧ u.1 66 41 ≤ 241)) ∧ (0 ≤ x4 ∧ x4 ≤ 5999) ∧ (u.1 66 40 = 0 → ∃ w A, rf_is u w x2 ∧ rf_is u A x4 ∧ rf_Rd u (.inner gj gk gu gf gx) A (rf_ga s (s.1 66 34).toNat) ∧ rf_Ap s u j D (rf_ga s (s.1 66 34).toNat) (rf_cs (rf_mm u (.inner gj gk gu gf gx))).1 w) ∧ (∃ D' gg gq gv gf' gx', f' = px_snoc D' (.inner gg gq gv gf' gx') ∧ px_is s (.inner gj gk gu gf gx) (.inner gg gq gv gf' gx') ∧ vk_C2 bb nb C M Γ (rf_ga s (s.1 66 34).toNat) (.inner tg tq tv f' y') tq.1 u (rf_rk u j) (u.2.1 82 j) (rf_mm u D) D' x2 ∧ vk_C1 bb nb C M Γ (rf_ga s (s.1 66 34).toNat) (.inner gg gq gv gf' gx') u (rf_mm u (.inner gj gk gu gf gx)) x4) ∧ n = 10 * rf_len (.inner gj gk gu gf gx) + 3) ∨ (pc = 234 ∧ ∃ (x2 x3 : Int) (gj : Nat) (gk : Int × Int) (gu : Unit) (gf gx D : rf_N), ls = [(0, .inr (.inl 66)), (1, .inl r), (2, .inl x2), (3, .inl x3)] ∧ k.1 ≠ 0 ∧ (cx_I u ∧ rf_FC s u (j :: (rf_idx D ++ (gj :: rf_idx gf)))) ∧ f = rf_snoc D (.inner gj gk gu gf gx) ∧ rf_rt u (.inner gj gk gu gf gx) x3 ∧ (0 ≤ x2 ∧ x2 ≤ 5999) ∧ (s.1 66 9 ≤ u.1 66 9 ∧ u.1 66 9 ≤ s.1 66 9 + ((rf_idx D).length : Int) + (1 + (rf_idx gf).length : Int)) ∧ rf_CB s u (1 + 9 * (rf_idx D).length + 9 * (1 + (rf_idx gf).length)) ∧ (u.1 66 40 = 0 ∨ (0 ≤ u.1 66 41 ∧ u.1 66 41 ≤ 241)) ∧ (u.1 66 40 = 0 → ∃ A B, rf_is u (rf_a A B) x2 ∧ rf_Rd u (.inner gj gk gu gf gx) A (rf_ga s (s.1 66 34).toNat) ∧ rf_Ap s u j D (rf_ga s (s.1 66 34).toNat) (rf_cs (rf_mm u (.inner gj gk gu gf gx))).1 (rf_a A B)) ∧ (∃ D' gg gq gv gf' gx', f' = px_snoc D' (.inner gg gq gv gf' gx') ∧ px_is s (.inner gj gk gu gf gx) (.inner gg gq gv gf' gx') ∧ vk_C3 bb nb C M Γ (rf_ga s (s.1 66 34).toNat) (.inner tg tq tv f' y') tq.1 u (rf_rk u j) (u.2.1 82 j) (rf_mm u D) D' (rf_mm u (.inner gj gk gu gf gx)) (.inner gg gq gv gf' gx') x2) ∧ n = 10 * rf_len (.inner gj gk gu gf gx) + 1) ∨ (pc = 262 ∧ ∃ x2 : Int, ls = [(0, .inr (.inl 66)), (1, .inl r), (2, .inl x2)] ∧ k.1 ≠ 0 ∧ (cx_I u ∧ rf_FC s u (j :: rf_idx f)) ∧ (0 ≤ x2 ∧ x2 ≤ 5999) ∧ (s.1 66 9 ≤ u.1 66 9 ∧ u.1 66 9 ≤ s.1 66 9 + ((rf_idx f).length : Int)) ∧ rf_CB s u (1 + 9 * (rf_idx f).length) ∧ (u.1 66 40 = 0 ∨ (0 ≤ u.1 66 41 ∧ u.1 66 41 ≤ 241)) ∧ (u.1 66 40 = 0 → ∃ w, rf_is u w x2 ∧ rf_Ap s u j f (rf_ga s (s.1 66 34).toNat) 0 w) ∧ vk_C2 bb nb C M Γ (rf_ga s (s.1 66 34).toNat) (.inner tg tq tv f' y') tq.1 u (rf_rk u j) (u.2.1 82 j) (rf_mm u f) f' x2 ∧ n = 0)) hsL (e := eX12_check) rfl ?_ ?_
  · refine w_q_check (c_r_wrong hsL (d + 1) (by omega)) (c_r_newVarC hsL (d + 1) (by omega)) (PM := fun z t => k.1 ≠ 0 ∧ cx_I t ∧ rf_FC s t [j] ∧ (0 ≤ z ∧ z ≤ 5999) ∧ rf_f [40, 41] s t ∧ t.2.2 = s.2.2 ∧ (t.1 66 40 = 0 ∨ (0 ≤ t.1 66 41 ∧ t.1 66 41 ≤ 241)) ∧ (t.1 66 40 = 0 → rf_mz t r z) ∧ px_mq bb nb C M Γ s t r z) (PB := fun z t => k.1 = 0 ∧ cx_I t ∧ ∃ z1 A, rf_F0 (s.1 66 34) s t (j :: rf_idx f) ∧ t.1 66 34 = s.1 66 34 + 1 ∧ t.2.1 82 j = z1 ∧ rf_vt t z1 A ∧ rf_is t A (s.2.1 76 j) ∧ rf_at A ≤ 5 ∧ s.1 66 9 ≤ t.1 66 9 ∧ t.1 66 9 ≤ s.1 66 9 + ((rf_idx f).length : Int) ∧ rf_CB s t (1 + 9 * (rf_idx f).length) ∧ (t.1 66 40 = 0 ∨ (0 ≤ t.1 66 41 ∧ t.1 66 41 ≤ 241)) ∧ (0 ≤ z ∧ z ≤ 5999) ∧ (t.1 66 40 = 0 → ∃ B, rf_is t B z ∧ rf_Rd t f B (z1 :: (rf_ga s (s.1 66 34).toNat)) ∧ rf_CB s t (1 + (rf_cs (rf_mm t f)).1)) ∧ s.1 66 58 ≤ z1 ∧ vk_C1 bb nb C M (tq :: Γ) (z1 :: (rf_ga s (s.1 66 34).toNat)) f' t (rf_mm t f) z) hI (by omega) (by have := hRB.2.1; omega) (by omega) ?_ ?_ ?_ ?_ ?_ ?_
    · intro h74 h78 tok t' htok p1 p2 p3 p4 p5
      have h77 := hI.arr 77 (by decide) rfl r.toNat
      have e9 := p3 9 rfl
      refine hK 0 t' p1 (rf_FC_sub (rf_FC_W p2 p3) (fun _ z => absurd z List.not_mem_nil)) (by omega) (rf_CB_same (t := s) ⟨by omega, by omega, by omega, by omega⟩ (p3 50 rfl) (p3 56 rfl) (p3 58 rfl) (p2 0).2) (Or.inr ?_) (by omega) (fun q => absurd q p4) (vk_C1_w (hk0 (by rw [ej] at h74; omega)).1 (by have := (hk0 (by rw [ej] at h74; omega)).2.2; rw [ej] at h78; omega) p4)
      rcases p5 with ⟨z1, z2, z3⟩ | ⟨z1, z2, z3⟩
      · omega
      · omega
    · intro h74 h78 z1 ty w n1 n2 tok v u t1 hty p1 p2 p3 p4 p5 p6 p7 p8 p9 hw hn1 hn2 hv hTOK htk hu K' hK'
      have hv2 := hv.symm
      subst hv2
      rw [ej] at h74 h78 hty hu ⊢
      have k0 : k.1 = 0 := by omega
      have hD : rf_D s j ∧ (rf_rw s f).1 := by
        rcases hrw with ⟨_, z1, z2⟩ | ⟨z, _⟩
        · exact ⟨z1, z2⟩
        · omega
      obtain ⟨⟨A, hA, hA5⟩, hrwf⟩ := hD
      have r80 := p1.arr 80 (by decide) rfl j
      have f1 : rf_F0 (s.1 66 34) s t1 [] := rf_F0_new p2 p5 p4 p6
      have f2 : rf_F0 (s.1 66 34) t1 (sx_uf t1.1 66 34 w, sx_ua (sx_ua (sx_ua t1.2.1 82 j z1) 93 n1.toNat tok) 94 n2.toNat z1, t1.2.2) [j] := by
        have := rf_F0_push (t1 := t1) (r := (j : Int)) (z1 := z1) (w := w) (n1 := n1) (n2 := n2) (tok := tok) (v := z1) (m := s.1 66 34) (by omega) (by omega) h34.1
        rw [Int.toNat_natCast] at this
        exact this
      have f3 : rf_F0 (s.1 66 34) s (sx_uf t1.1 66 34 w, sx_ua (sx_ua (sx_ua t1.2.1 82 j z1) 93 n1.toNat tok) 94 n2.toNat z1, t1.2.2) [j] := rf_F0_trans f2 f1 (fun _ z => absurd z List.not_mem_nil) (fun _ z => z)
      have e34 : sx_uf t1.1 66 34 w 66 34 = w := by
        rw [sx_uf_if]
        exact if_pos ⟨rfl, rfl⟩
      have e : ∀ q, q ≠ 34 → sx_uf t1.1 66 34 w 66 q = t1.1 66 q := fun q hq => by
        rw [sx_uf_if]
        exact if_neg (fun c => hq c.2)
      have a82 : (sx_ua (sx_ua (sx_ua t1.2.1 82 j z1) 93 n1.toNat tok) 94 n2.toNat z1) 82 j = z1 := by
        rw [sx_ua_ne (by decide), sx_ua_ne (by decide), sx_ua_same]
        exact if_pos rfl
      have a94 : (sx_ua (sx_ua (sx_ua t1.2.1 82 j z1) 93 n1.toNat tok) 94 n2.toNat z1) 94 n2.toNat = z1 := by
        rw [sx_ua_same]
        exact if_pos rfl
      have a106 : (sx_ua (sx_ua (sx_ua t1.2.1 82 j z1) 93 n1.toNat tok) 94 n2.toNat z1) 106 = t1.2.1 106 := by
        rw [sx_ua_ne (by decide), sx_ua_ne (by decide), sx_ua_ne (by decide)]
      have a80 : (sx_ua (sx_ua (sx_ua t1.2.1 82 j z1) 93 n1.toNat tok) 94 n2.toNat z1) 80 = s.2.1 80 := (f3.same 80 rfl).2
      have a76 : (sx_ua (sx_ua (sx_ua t1.2.1 82 j z1) 93 n1.toNat tok) 94 n2.toNat z1) 76 = s.2.1 76 := (f3.same 76 rfl).2
      have hA2 : rf_is (sx_uf t1.1 66 34 w, sx_ua (sx_ua (sx_ua t1.2.1 82 j z1) 93 n1.toNat tok) 94 n2.toNat z1, t1.2.2) A ty := by
        rw [hty]
        exact rf_is_up hA f3.2.2.1.1
      have hvt : rf_vt (sx_uf t1.1 66 34 w, sx_ua (sx_ua (sx_ua t1.2.1 82 j z1) 93 n1.toNat tok) 94 n2.toNat z1, t1.2.2) z1 A := by
        refine ⟨⟨by omega, by dsimp only; rw [e 58 (by decide)]; omega⟩, ?_⟩
        dsimp only
        rw [a106, p9]
        exact hA2
      have h75 := hI.arr 75 (by decide) rfl j
      have htok := p1.arr 75 (by decide) rfl
      have hCKp : rf_CK (sx_uf t1.1 66 34 w, sx_ua (sx_ua (sx_ua t1.2.1 82 j z1) 93 n1.toNat tok) 94 n2.toNat z1, t1.2.2) := by
        have up : ∀ z, rf_t5 s z → rf_t5 (sx_uf t1.1 66 34 w, sx_ua (sx_ua (sx_ua t1.2.1 82 j z1) 93 n1.toNat tok) 94 n2.toNat z1, t1.2.2) z := fun z ⟨y, h1, h2⟩ => ⟨y, rf_is_up h1 f3.2.2.1.1, h2⟩
        intro q
        obtain ⟨c1, c2, c3⟩ := hCK q
        obtain ⟨⟨b1, b2, b3, b4, b5⟩, b6, b7, b8, b9, b10⟩ := f3.2.2.1.2 q
        refine ⟨fun z => ?_, fun z => ?_, fun z => ?_⟩
        · rw [b9]
          exact up _ (c1 (by omega))
        · rw [b10]
          exact up _ (c2 (by omega))
        · dsimp only at z
          rw [e34] at z
          by_cases hq : (q : Int) = s.1 66 34
          · have eq2 : n2.toNat = q := by omega
            have e94 : ((sx_uf t1.1 66 34 w, sx_ua (sx_ua (sx_ua t1.2.1 82 j z1) 93 n1.toNat tok) 94 n2.toNat z1, t1.2.2) : sx_S).2.1 94 q = z1 := by
              rw [← eq2]
              exact a94
            rw [e94]
            exact ⟨hvt.1, A, hvt.2, by omega⟩
          · obtain ⟨d1, d2⟩ := c3 (by omega)
            rw [f3.2.2.2.1 94 q (by omega) (by omega) (by omega)]
            refine ⟨by omega, ?_⟩
            rw [(f3.2.2.1.2 (s.2.1 94 q).toNat).2.1 (by omega)]
            exact up _ d2
      have hhf := rf_ht_0 (j := j) (u := uu) (f := f) (x := y) k0
      have hga : rf_ga (sx_uf t1.1 66 34 w, sx_ua (sx_ua (sx_ua t1.2.1 82 j z1) 93 n1.toNat tok) 94 n2.toNat z1, t1.2.2) (sx_uf t1.1 66 34 w 66 34).toNat = z1 :: rf_ga s (s.1 66 34).toNat := by
        rw [e34, show w.toNat = (s.1 66 34).toNat + 1 by omega]
        show (sx_ua (sx_ua (sx_ua t1.2.1 82 j z1) 93 n1.toNat tok) 94 n2.toNat z1) 94 (s.1 66 34).toNat :: rf_ga (sx_uf t1.1 66 34 w, sx_ua (sx_ua (sx_ua t1.2.1 82 j z1) 93 n1.toNat tok) 94 n2.toNat z1, t1.2.2) (s.1 66 34).toNat = _
        rw [show (s.1 66 34).toNat = n2.toNat by omega, a94, rf_ga_eq (s := s) (fun q hq => f3.2.2.2.1 94 q (by omega) (by omega) (by omega))]
      have hcb0 : rf_CB s (sx_uf t1.1 66 34 w, sx_ua (sx_ua (sx_ua t1.2.1 82 j z1) 93 n1.toNat tok) 94 n2.toNat z1, t1.2.2) 1 := ⟨by dsimp only; rw [e 50 (by decide)]; omega, by dsimp only; rw [e 58 (by decide)]; omega, by dsimp only; rw [e 56 (by decide), p5 56 rfl]; omega, by dsimp only; rw [(p2 0).2]; omega⟩
      have hok : cx_I (sx_uf t1.1 66 34 w, sx_ua (sx_ua (sx_ua t1.2.1 82 j z1) 93 n1.toNat tok) 94 n2.toNat z1, t1.2.2) := by
        refine cx_I_uf rfl rfl (cx_I_ua rfl rfl (cx_I_ua rfl rfl (cx_I_ua rfl rfl (F := t1.1) (A := t1.2.1) (B := t1.2.2) p1 (by omega) (by omega)) ?_ ?_) (by omega) (by omega)) (by omega) (by omega)
        · exact hTOK.1
        · exact hTOK.2
      refine ih f f' (tq :: Γ) u (sx_uf t1.1 66 34 w, sx_ua (sx_ua (sx_ua t1.2.1 82 j z1) 93 n1.toNat tok) 94 n2.toNat z1, t1.2.2) K' hok ?_ hnf ((rf_rw_F0 f3).1 hrwf) (by omega) hCKp ?_ ?_ ?_ (rf_RB_CB hRB hcb0 (by omega)) (px_E_F0 hE f3) (px_EV_1 (q := tq) (z1 := z1) hEV f3 (by dsimp only; rw [e34]; omega) ?_ ?_ (by omega) (by dsimp only; rw [e 58 (by decide)]; omega) (by omega) hb1 ?_) (px_is_F0 f3 hx3) hb2 (fun z t c1 c2 c3 c4 c5 c6 c7 c8 => hK' z t ⟨k0, c1, ?_⟩)
      · rw [hu, (f1.same 80 rfl).2]
        exact rf_rt_F0 f3 m4
      · dsimp only
        rw [e 40 (by decide), p5 40 rfl]
        exact h40
      · dsimp only
        rw [e 9 (by decide), p5 9 rfl]
        omega
      · dsimp only
        rw [e34]
        omega
      · dsimp only
        rw [sx_ua_ne (by decide), sx_ua_same]
        dsimp only
        rw [if_pos (show (s.1 66 34).toNat = n1.toNat by omega), htk, ej, (p2.same 75 rfl).2, m3, hx1]
      · dsimp only
        rw [show (s.1 66 34).toNat = n2.toNat by omega]
        exact a94
      · dsimp only
        rw [a106, p9, hty]
        exact qx_is_up (hk0 k0).2.1 f3.2.2.1.1
      · rw [hga] at c7 c8
        have e9p : sx_uf t1.1 66 34 w 66 9 = s.1 66 9 := (e 9 (by decide)).trans (p5 9 rfl)
        dsimp only at c3
        rw [e9p] at c3
        refine ⟨z1, A, rf_F0_trans (rf_F0_C c2 (by dsimp only; rw [e34]; omega)) f3 (T := j :: rf_idx f) (fun i hi => by have : i = j := (by simpa using hi); rw [this]; exact List.mem_cons_self) (fun i hi => ?_), ?_, ?_, rf_vt_up c2.2.2.1 hvt, ?_, by omega, by omega, by omega, rf_CB_trans c4 hcb0 (by omega), c5, c6, fun q => ?_, by omega, c8⟩
        · refine List.mem_cons_of_mem _ ?_
          cases f with
          | leaf => exact absurd hi List.not_mem_nil
          | inner fj fk fu ff fx =>
            rcases List.mem_cons.mp hi with rfl | hi
            · exact List.mem_cons_self
            · exact List.mem_cons_of_mem _ (List.mem_append_left _ hi)
        · have := c2.2.1 34 rfl
          rw [this]
          dsimp only
          rw [e34]
          omega
        · rw [c2.2.2.2.2.1 82 j (by omega) (by omega) (fun q => hjf ?_)]
          · exact a82
          · cases f with
            | leaf => exact absurd q List.not_mem_nil
            | inner fj fk fu ff fx =>
              rcases List.mem_cons.mp q with rfl | q
              · exact List.mem_cons_self
              · exact List.mem_cons_of_mem _ (List.mem_append_left _ q)
        · rw [← hty]
          exact rf_is_up hA2 c2.2.2.1.1
        · obtain ⟨B, b1, b2, b3⟩ := c7 q
          exact ⟨B, b1, b2, rf_CB_trans b3 hcb0 (Nat.le_refl _)⟩
    · intro z t q
      exact ⟨_, Or.inl ⟨rfl, z, rfl, q, rfl⟩⟩
    · intro h74 K' hK'
      refine c_q_mean hsL (d + 1) (by omega) bb nb mt C M Γ r s K' hI (by omega) hCK (hE trivial).1 ⟨by rw [ej, m3, hx1]; exact hb1.2, hmt⟩ (hE trivial).2.1 (hE trivial).2.2 hEV h40 (fun z t c1 c2 c3 c4 c5 c6 c7 c8 => hK' z t ⟨by rw [ej] at h74; omega, c1, ?_, c3, c4, (c2 0).2, by omega, c7, c8⟩)
      have := rf_FC_mean (by omega) c2 c4 c5
      rw [ej] at this
      exact this
    · exact fun z t q => q.2.1
    · rintro z t ⟨k0, c1, c2, c3, c4, c5, c6, c7, c8⟩ u hu
      have hrk : t.1 66 40 = 0 → rf_rk t j = t.2.1 83 j := fun q => by
        obtain ⟨U, h1, ⟨h2, h3⟩, h4⟩ := c7 q
        rw [ej] at h3
        have h83 : t.2.1 83 j ≠ 0 := by
          rcases h3 with h3 | h3 | h3
          · rw [h3.1]
            decide
          · rw [h3.1]
            decide
          · rw [h3.1]
            decide
        have h74 : t.2.1 74 j ≠ 0 := by
          rw [(c2.same 74 rfl).2]
          exact fun z => k0 (by rw [← m2]; exact z)
        unfold rf_rk
        rw [if_neg h74, if_neg h83]
      have hc20 := vk_C2_0 (x' := y') (u0 := tv) (f' := f') (ρ := (rf_ga s (s.1 66 34).toNat)) (hkn k0) c8 (by rw [ej, m3, hx1]) hsi h40
      rw [ej] at hc20
      have r80 := c1.arr 80 (by decide) rfl r.toNat
      have e9 := c4 9 rfl
      refine ⟨_, Or.inr (Or.inl ⟨rfl, z, u, f, .leaf, rfl, k0, ⟨c1, c2⟩, rfl, ?_, c3, ⟨by omega, by rw [e9]; exact Int.le_add_of_nonneg_right (Int.natCast_nonneg _)⟩, ⟨by rw [c4 50 rfl]; omega, by rw [c4 58 rfl]; omega, by rw [c4 56 rfl]; omega, by rw [c5]; omega⟩, c6, fun q => ?_, ⟨.leaf, f', rfl, hx3, vk_C2_o hc20 hrk⟩, rfl⟩)⟩
      · rw [hu, ej, (c2.same 80 rfl).2]
        exact rf_rt_F0 (rf_F0_C c2 (Int.le_refl _)) m4
      · obtain ⟨U, h1, ⟨h2, h3⟩, h4⟩ := c7 q
        rw [ej] at h3 h4
        have h83 : t.2.1 83 j ≠ 0 := by
          rcases h3 with h3 | h3 | h3
          · rw [h3.1]
            decide
          · rw [h3.1]
            decide
          · rw [h3.1]
            decide
        have h74 : t.2.1 74 j ≠ 0 := by
          rw [(c2.same 74 rfl).2]
          exact fun z => k0 (by rw [← m2]; exact z)
        have erk : rf_rk t j = t.2.1 83 j := by
          unfold rf_rk
          rw [if_neg h74, if_neg h83]
        refine ⟨U, h1, U, ⟨by rw [erk]; exact h83, erk, ⟨h2, ?_⟩, fun q2 => ?_⟩, rfl, trivial, trivial, ⟨by rw [c4 50 rfl]; omega, by rw [c4 58 rfl]; omega, by rw [c4 56 rfl]; omega, by rw [c5]; omega⟩⟩
        · rw [erk]
          rcases h3 with h3 | h3 | h3
          · exact Or.inr (Or.inr (Or.inl h3))
          · exact Or.inr (Or.inl h3)
          · exact Or.inr (Or.inr (Or.inr h3))
        · rw [erk] at q2
          obtain ⟨i, hi1, hi2⟩ := h4 q2
          have e34 := c4 34 rfl
          rw [hi2, c2.2.2.2.1 94 i (by omega) (by omega) (by omega)]
          exact rf_ga_mem (by omega)
  · rintro n pc ls u (⟨rfl, x2, rfl, ⟨k0, g1, z1, A, g2, g3, g4, g5, g6, gA, gt1, gt2, g7, g8, g9, g10, gx0, gx1⟩, rfl⟩ | ⟨rfl, x2, x3, g, D, rfl, k0, ⟨g1, g2⟩, hf, hg, h2, h9u, hcb, h41, hap, ⟨D', g', e1, e2, e3⟩, rfl⟩ | ⟨rfl, x2, x3, x4, gj, gk, gu, gf, gx, D, rfl, k0, ⟨g1, g2⟩, hf, hg, h2, h9u, hcb, h41, h4, hap, ⟨D', gg, gq, gv, gf', gx', e1, e2, e3, e4⟩, rfl⟩ | ⟨rfl, x2, x3, gj, gk, gu, gf, gx, D, rfl, k0, ⟨g1, g2⟩, hf, hg, h2, h9u, hcb, h41, hap, ⟨D', gg, gq, gv, gf', gx', e1, e2, e3⟩, rfl⟩ | ⟨rfl, x2, rfl, k0, ⟨g1, g2⟩, h2, h9u, hcb, h41, hap, e3, rfl⟩)
    · refine w_q_check_100 (c_q_arr4 hsL (d + 1) (by omega)) g1 (by omega) g9 (by omega) (by omega) ?_ ?_
      · intro h40u z ty w v t1 hty hw p1 p2 p3 p4 p5 p6 p7 p8 p9 hv
        rw [ej] at hty ⊢
        obtain ⟨B, b1, b2, b3⟩ := g10 h40u
        have e34 : sx_uf u.1 66 34 w 66 34 = w := by
          rw [sx_uf_if]
          exact if_pos ⟨rfl, rfl⟩
        have e : ∀ q, q ≠ 34 → sx_uf u.1 66 34 w 66 q = u.1 66 q := fun q hq => by
          rw [sx_uf_if]
          exact if_neg (fun c => hq c.2)
        have f1 : rf_F0 (s.1 66 34) u (sx_uf u.1 66 34 w, u.2) [] := rf_F0_34
        have f2 : rf_F0 (s.1 66 34) (sx_uf u.1 66 34 w, u.2) t1 [] := rf_F0_arw p2 p5 p7
        have t34 : t1.1 66 34 = s.1 66 34 := by
          rw [p5 34 rfl]
          dsimp only
          rw [e34]
          omega
        have f3 : rf_F0 (s.1 66 34) t1 (t1.1, sx_ua t1.2.1 84 j z, t1.2.2) [j] := by
          have := rf_F0_C (m := s.1 66 34) (rf_FC_84 (s := t1) (r := (j : Int)) (v := z)) (by omega)
          rw [Int.toNat_natCast] at this
          exact this
        have f4 : rf_F0 (s.1 66 34) u (t1.1, sx_ua t1.2.1 84 j z, t1.2.2) [j] := rf_F0_trans f3 (rf_F0_trans (T := []) f2 f1 (fun _ q => q) (fun _ q => q)) (fun _ q => absurd q List.not_mem_nil) (fun _ q => q)
        have f5 : rf_F0 (s.1 66 34) s (t1.1, sx_ua t1.2.1 84 j z, t1.2.2) (j :: rf_idx f) := rf_F0_trans f4 g2 (fun _ q => q) (fun i hi => by have : i = j := (by simpa using hi); rw [this]; exact List.mem_cons_self)
        have d1 : ∀ i ∈ rf_idx f, i ∉ [j] := fun i hi q => hjf (by have : i = j := (by simpa using q); rw [← this]; exact hi)
        have e50 := (p5 50 rfl).trans (e 50 (by decide))
        have e56 := (p5 56 rfl).trans (e 56 (by decide))
        have e58 := (p5 58 rfl).trans (e 58 (by decide))
        have e40 := (p5 40 rfl).trans (e 40 (by decide))
        have e41 := (p5 41 rfl).trans (e 41 (by decide))
        have e9 := e 9 (by decide)
        have eo : t1.2.2 = u.2.2 := (p2 0).2
        have hmf := rf_mm_F0 f4 d1
        have hz0 : 0 ≤ z ∧ z ≤ 5999 := by omega
        have a82 : (sx_ua t1.2.1 84 j z) 82 j = z1 := by
          rw [sx_ua_ne (by decide), (p2.same 82 rfl).2]
          exact g4
        have h74 : (t1.1, sx_ua t1.2.1 84 j z, t1.2.2).2.1 74 j = 0 := by
          rw [(f5.same 74 rfl).2]
          omega
        have erk : rf_rk (t1.1, sx_ua t1.2.1 84 j z, t1.2.2) j = 0 := by
          unfold rf_rk
          rw [if_pos h74]
        refine hK v _ (cx_I_ua rfl rfl (F := t1.1) (A := t1.2.1) (B := t1.2.2) p1 (by omega) (by omega)) (rf_C_F0 f5 t34) ⟨by dsimp only; omega, by dsimp only; rw [hs1]; push_cast; omega⟩ (rf_CB_same (t := u) ?_ e50 e56 e58 eo) (by dsimp only; omega) (by omega) (fun _ => ⟨rf_a A B, ?_, ⟨Or.inl ⟨erk, A, B, rfl, ⟨gA, Or.inl ⟨erk, ?_⟩⟩, ?_⟩, Or.inl ⟨erk, ?_⟩, Or.inl ⟨erk, ?_⟩⟩, rf_CB_same (t := u) ?_ e50 e56 e58 eo⟩) ?_
        · obtain ⟨c1, c2, c3, c4⟩ := g7
          rw [hs1]
          exact ⟨by omega, by omega, by omega, by omega⟩
        · rw [hv]
          have h1 := p8 A B (by dsimp only; rw [e9]; omega) (rf_is_up (by rw [hty, (g2.same 76 rfl).2]; exact g6) f1.2.2.1.1) (rf_is_up b1 f1.2.2.1.1)
          exact rf_is_up h1 f3.2.2.1.1
        · show rf_vt _ ((sx_ua t1.2.1 84 j z) 82 j) A
          rw [a82]
          exact rf_vt_up f4.2.2.1 g5
        · exact (rf_Rd_F0 f4 d1 b2).1
        · exact (rf_Rd_F0 f4 d1 b2).2.1
        · show (rf_sc rf_G1 (rf_mm _ f)).1 ((sx_ua t1.2.1 84 j z) 82 j :: _)
          rw [a82]
          exact (rf_Rd_F0 f4 d1 b2).2.2
        · show rf_CB s u (1 + (if rf_rk (t1.1, sx_ua t1.2.1 84 j z, t1.2.2) j = 0 then _ else _))
          rw [if_pos erk, hmf]
          exact b3
        · have hty2 : qx_is u tq.2 (s.2.1 76 j) := qx_is_up (hk0 k0).2.1 g2.2.2.1.1
          have hsh := rf_ty_inj g6 (qx_ty_sh (by omega) hty2)
          refine vk_C1_l2 (hk0 k0).1 erk a82 hmf gx1 h40u (by dsimp only; omega) (by rw [hsh, qx_sh_at] at gA; exact gA) (fun y hy => ?_) (fun x hx => ?_)
          · rw [hv]
            exact qx_is_up (p9 tq.2 y (by dsimp only; rw [e9]; omega) (qx_is_up (by rw [hty, (g2.same 76 rfl).2]; exact hty2) f1.2.2.1.1) (qx_is_up hy f1.2.2.1.1)) f3.2.2.1.1
          · have := px_EV_lt hEV x hx
            omega
      · intro h40u w v hw hv
        rw [ej]
        have e34 : sx_uf u.1 66 34 w 66 34 = w := by
          rw [sx_uf_if]
          exact if_pos ⟨rfl, rfl⟩
        have e : ∀ q, q ≠ 34 → sx_uf u.1 66 34 w 66 q = u.1 66 q := fun q hq => by
          rw [sx_uf_if]
          exact if_neg (fun c => hq c.2)
        have f1 : rf_F0 (s.1 66 34) u (sx_uf u.1 66 34 w, u.2) [] := rf_F0_34
        have f3 : rf_F0 (s.1 66 34) (sx_uf u.1 66 34 w, u.2) (sx_uf u.1 66 34 w, sx_ua u.2.1 84 j 0, u.2.2) [j] := by
          have := rf_F0_C (m := s.1 66 34) (rf_FC_84 (s := (sx_uf u.1 66 34 w, u.2)) (r := (j : Int)) (v := 0)) (by dsimp only; rw [e34]; omega)
          rw [Int.toNat_natCast] at this
          exact this
        have f5 : rf_F0 (s.1 66 34) s (sx_uf u.1 66 34 w, sx_ua u.2.1 84 j 0, u.2.2) (j :: rf_idx f) := rf_F0_trans (rf_F0_trans (T := [j]) f3 f1 (fun _ q => absurd q List.not_mem_nil) (fun _ q => q)) g2 (fun _ q => q) (fun i hi => by have : i = j := (by simpa using hi); rw [this]; exact List.mem_cons_self)
        have e9 := e 9 (by decide)
        have e40 := e 40 (by decide)
        have e41 := e 41 (by decide)
        refine hK v _ (cx_I_uf rfl rfl (cx_I_ua rfl rfl (F := u.1) (A := u.2.1) (B := u.2.2) g1 (by omega) (by omega)) (by omega) (by omega)) (rf_C_F0 f5 (by dsimp only; rw [e34]; omega)) ⟨by dsimp only; omega, by dsimp only; rw [hs1]; push_cast; omega⟩ (rf_CB_same (t := u) ?_ (e 50 (by decide)) (e 56 (by decide)) (e 58 (by decide)) rfl) (by dsimp only; omega) (by omega) (fun q => absurd (e40.symm.trans q) h40u) (vk_C1_lb (hk0 k0).1 gx1 h40u (fun q => h40u (e40.symm.trans q)))
        obtain ⟨c1, c2, c3, c4⟩ := g7
        rw [hs1]
        exact ⟨by omega, by omega, by omega, by omega⟩
    · have hr3 := hrt g1 hg
      have e34 := g2.2.1 34 rfl
      have hlen := rf_idx_slen g D
      rw [← hf] at hlen
      cases g with
      | leaf =>
        have ex3 := e3
        have e3 : x3 = -1 := hg
        refine w_check_158 (PB := fun _ _ => False) g1 hr3 (fun _ => ?_) (fun q => absurd e3 q) (fun _ _ q => q.elim)
        rw [rf_snoc_leaf] at hf
        rw [← hf] at g2 h9u hcb hap
        have e1' : f' = D' := by
          cases g' with
          | leaf => exact e1.trans (px_snoc_leaf D')
          | inner _ _ _ _ _ => exact e2.elim
        rw [← hf, ← e1'] at ex3
        exact ⟨_, by omega, Or.inr (Or.inr (Or.inr (Or.inr ⟨rfl, x2, rfl, k0, ⟨g1, g2⟩, h2, h9u, hcb, h41, hap, ex3, rfl⟩)))⟩
      | inner gj gk gu gf gx =>
        obtain ⟨gg, gq, gv, gf', gx', rfl⟩ : ∃ a b c d e, g' = .inner a b c d e := by
          cases g' with
          | leaf => exact e2.elim
          | inner a b c d e => exact ⟨a, b, c, d, e, rfl⟩
        have hsg : rf_s1 (.inner gj gk gu gf gx) = 1 + (rf_idx gf).length := rfl
        have hix : (rf_idx (.inner gj gk gu gf gx)).length = 1 + (rf_idx gf).length + (rf_idx gx).length := rf_s1_idx
        have hndf : (rf_idx (rf_snoc D (.inner gj gk gu gf gx))).Nodup := by
          rw [← hf]
          exact hnf
        have hndg := rf_nodup_part hndf
        have hdis := rf_nodup_disj hndf
        have hgf : ∀ i ∈ rf_idx (.inner gj gk gu gf gx), i ∈ rf_idx f := fun i hi => by
          rw [hf]
          exact (rf_idx_snoc _ _ _).mpr (Or.inr hi)
        have hal : ∀ i ∈ rf_al1 (.inner gj gk gu gf gx), i ∈ rf_idx (.inner gj gk gu gf gx) := fun i hi => by
          rcases List.mem_cons.mp hi with rfl | hi
          · exact List.mem_cons_self
          · exact List.mem_cons_of_mem _ (List.mem_append_left _ hi)
        refine w_check_158 (PB := fun z t => u.1 66 40 = 0 ∧ cx_I t ∧ rf_FC u t (rf_al1 (.inner gj gk gu gf gx)) ∧ (u.1 66 9 ≤ t.1 66 9 ∧ t.1 66 9 ≤ u.1 66 9 + (rf_s1 (.inner gj gk gu gf gx) : Int)) ∧ rf_CB u t (9 * rf_s1 (.inner gj gk gu gf gx)) ∧ (t.1 66 40 = 0 ∨ (0 ≤ t.1 66 41 ∧ t.1 66 41 ≤ 241)) ∧ (0 ≤ z ∧ z ≤ 5999) ∧ (t.1 66 40 = 0 → ∃ x, rf_is t x z ∧ rf_Rd t (.inner gj gk gu gf gx) x (rf_ga s (s.1 66 34).toNat) ∧ rf_CB u t (rf_cs (rf_mm t (.inner gj gk gu gf gx))).1) ∧ vk_C1 bb nb C M Γ (rf_ga s (s.1 66 34).toNat) (.inner gg gq gv gf' gx') t (rf_mm t (.inner gj gk gu gf gx)) z) g1 hr3 (fun q => ?_) (fun q1 q2 K' hK' => ?_) ?_
        · refine ⟨0, by omega, Or.inr (Or.inr (Or.inr (Or.inr ⟨rfl, x2, rfl, k0, ⟨g1, rf_FC_sub g2 (fun i hi => ?_)⟩, h2, by omega, ?_, h41, fun q3 => ?_, vk_C2_n (hkn k0) e3 (q.resolve_left (fun z => by have := hg.1.1; omega)) (fun z => absurd z (q.resolve_left (fun z => by have := hg.1.1; omega))), rfl⟩)))⟩
          · rcases List.mem_cons.mp hi with rfl | hi
            · exact List.mem_cons_self
            · refine List.mem_cons_of_mem _ ?_
              rw [hf]
              exact (rf_idx_snoc _ _ _).mpr (Or.inl hi)
          · obtain ⟨c1, c2, c3, c4⟩ := hcb
            exact ⟨by omega, by omega, by omega, by omega⟩
          · exfalso
            have := hg.1.1
            omega
        · have hga : rf_ga u (u.1 66 34).toNat = rf_ga s (s.1 66 34).toNat := by
            rw [e34]
            exact rf_ga_eq (fun i hi => g2.2.2.2.1 94 i (by omega) (by omega) (by omega))
          have hrwg : (rf_rw u (.inner gj gk gu gf gx)).1 := by
            refine (rf_rw_F0 (rf_F0_C g2 (Int.le_refl _))).1 ?_
            rcases hrw with ⟨z, _⟩ | ⟨_, z⟩
            · exact absurd z k0
            · rw [hf] at z
              exact rf_rw_part (fun q => by cases q) z
          have hhf := rf_ht_n (j := j) (u := uu) (f := f) (x := y) k0
          have hhp := rf_ht_part (a := D) (b := (.inner gj gk gu gf gx))
          rw [← hf] at hhp
          have hhr := rf_ht_r (j := gj) (k := gk) (u := gu) (f := gf) (x := gx)
          refine ih (.inner gj gk gu gf gx) (.inner gg gq gv gf' gx') Γ x3 u K' g1 hg hndg hrwg (by omega) (rf_CK_F0 (rf_F0_C g2 (Int.le_refl _)) (by omega) (by omega) hCK) q2 (by omega) (by omega) (rf_RB_CB hRB hcb (by omega)) (px_E_FC hE g2) (px_EV_0 hEV (by omega) g2.2.2.1 g2.2.2.2.1) (px_is_F0 (rf_F0_C g2 (Int.le_refl _)) e2) (px_tb_snoc (by rw [← e1]; exact hb2)).2 (fun z t c1 c2 c3 c4 c5 c6 c7 c8 => hK' z t ⟨q2, c1, c2, c3, c4, c5, c6, ?_, ?_⟩)
          · rw [hga] at c7
            exact c7
          · rw [hga] at c8
            exact c8
        · rintro z t ⟨q2, c1, c2, c3, c4, c5, c6, c7, c8⟩
          have hjg : j ∉ rf_al1 (.inner gj gk gu gf gx) := fun q => hjf (hgf j (hal j q))
          have hDg : ∀ i ∈ rf_idx D, i ∉ rf_al1 (.inner gj gk gu gf gx) := fun i hi q => hdis i hi (hal i q)
          have z83 := c2.2.2.2.2.1 83 j (by omega) (by omega) hjg
          have z82 := c2.2.2.2.2.1 82 j (by omega) (by omega) hjg
          have zrk : rf_rk t j = rf_rk u j := rf_rk_eq (by rw [(c2.same 74 rfl).2]) z83
          have zmm : rf_mm t D = rf_mm u D := rf_mm_C c2 hDg
          refine ⟨10 * rf_len (.inner gj gk gu gf gx) + 3, by omega, Or.inr (Or.inr (Or.inl ⟨rfl, x2, x3, z, gj, gk, gu, gf, gx, D, rfl, k0, ⟨c1, rf_FC_trans c2 g2 (fun i hi => ?_) (fun i hi => ?_)⟩, hf, rf_rt_F0 (rf_F0_C c2 (Int.le_refl _)) hg, h2, by omega, rf_CB_trans c4 hcb (by omega), c5, c6, fun q3 => ?_, ⟨D', gg, gq, gv, gf', gx', e1, e2, by rw [zrk, z82, zmm]; exact vk_C2_c (hkn k0) e3 q2 c8 e1 c2.2.2.1.1, c8⟩, rfl⟩))⟩
          · rcases List.mem_cons.mp hi with rfl | hi
            · exact List.mem_cons_self
            · exact List.mem_cons_of_mem _ (List.mem_append_left _ hi)
          · exact List.mem_cons_of_mem _ (List.mem_append_right _ hi)
          · obtain ⟨w, w1, w2⟩ := hap q2
            obtain ⟨A, a1, a2, a3⟩ := c7 q3
            have := rf_Ap_C c2 hjg hDg a3 w2
            rw [Nat.zero_add] at this
            exact ⟨w, A, rf_is_up w1 c2.2.2.1.1, a1, a2, this⟩
    · have hg0 := hg.1
      have e9 : 2 ≤ u.1 66 9 ∧ u.1 66 9 ≤ 6000 := by
        have hlen := rf_idx_slen (.inner gj gk gu gf gx) D
        rw [← hf] at hlen
        have hix : (rf_idx (.inner gj gk gu gf gx)).length = 1 + (rf_idx gf).length + (rf_idx gx).length := rf_s1_idx
        omega
      refine w_q_check_177 (c_r_wrong hsL (d + 1) (by omega)) (PS := fun z => (z ≠ 0 → ∃ A B, rf_is u (rf_a A B) x2 ∧ rf_Rd u (.inner gj gk gu gf gx) A (rf_ga s (s.1 66 34).toNat) ∧ rf_Ap s u j D (rf_ga s (s.1 66 34).toNat) (rf_cs (rf_mm u (.inner gj gk gu gf gx))).1 (rf_a A B)) ∧ (z ≠ 0 → vk_C3 bb nb C M Γ (rf_ga s (s.1 66 34).toNat) (.inner tg tq tv f' y') tq.1 u (rf_rk u j) (u.2.1 82 j) (rf_mm u D) D' (rf_mm u (.inner gj gk gu gf gx)) (.inner gg gq gv gf' gx') x2) ∧ (z = 0 → ∀ y, ¬ (px_wt (px_SN bb nb) C M (.inner tg tq tv f' y')).1 Γ y)) g1 h2 ⟨by omega, by have := hrt g1 hg; omega⟩ ?_ ?_ ?_ ?_
      · intro q1 q2 v hv K' hK'
        obtain ⟨w, A, a1, a2, a3, a4⟩ := hap q1
        obtain ⟨A2, B, ew, b1, b2⟩ := rf_ty_a a1 q2
        rw [hv]
        have hA2 : rf_at A2 ≤ 5 := by
          obtain ⟨U, ⟨_, _, ⟨u5, _⟩, _⟩, u6, _⟩ := a4
          have h1 := rf_gt_at u6
          have h2 : rf_at w = rf_at A2 + rf_at B := by
            rw [ew]
            rfl
          omega
        have hx2 := rf_hx_at A2
        obtain ⟨A9, X9, s1, s2, s3, s4⟩ := vk_C3_s (hkn k0) e3 e4 q1 e1 q2
        have sA : A2 = qx_sh A9 := rf_ty_inj b1 (qx_ty_sh e9.1 s1)
        have sX : A = qx_sh X9 := rf_ty_inj a2 (qx_ty_sh e9.1 s2)
        refine c_q_same hsL A9 (d + 1) (by rw [← sA]; omega) X9 (u.2.1 72 x2.toNat) x4 u K' g1 e9 s1 s2 (fun z3 => hK' 1 (by omega) ⟨fun _ => ?_, fun _ => s3 z3, fun q => absurd q (by decide)⟩) (fun z3 => hK' 0 (by omega) ⟨fun q => absurd rfl q, fun q => absurd rfl q, fun _ => s4 z3⟩)
        have e : A2 = A := by rw [sA, sX, z3]
        subst e
        subst ew
        exact ⟨A2, B, a1, a3, a4⟩
      · intro q
        exact ⟨_, by omega, Or.inr (Or.inr (Or.inr (Or.inl ⟨rfl, x2, x3, gj, gk, gu, gf, gx, D, rfl, k0, ⟨g1, g2⟩, hf, hg, h2, h9u, hcb, h41, fun z => absurd z q, ⟨D', gg, gq, gv, gf', gx', e1, e2, vk_C3_n q ((e3 trivial).2 q)⟩, rfl⟩)))⟩
      · intro q1 q2 z q3 q4
        exact ⟨_, by omega, Or.inr (Or.inr (Or.inr (Or.inl ⟨rfl, x2, x3, gj, gk, gu, gf, gx, D, rfl, k0, ⟨g1, g2⟩, hf, hg, h2, h9u, hcb, h41, fun _ => q4.1 q3, ⟨D', gg, gq, gv, gf', gx', e1, e2, q4.2.1 q3⟩, rfl⟩)))⟩
      · intro p7 t' p1 p2 p3 p4 p5 p6
        have zzn : ∀ y, ¬ (px_wt (px_SN bb nb) C M (.inner tg tq tv f' y')).1 Γ y := by
          rcases p7 with q | ⟨z, q1, q2⟩
          · exact vk_C3_l (hkn k0) e3 p5 e1 q
          · exact q2.2.2 q1
        have fw := rf_FC_W p2 p3
        have e9' := p3 9 rfl
        exact ⟨_, by omega, Or.inr (Or.inr (Or.inr (Or.inl ⟨rfl, x2, x3, gj, gk, gu, gf, gx, D, rfl, k0, ⟨p1, rf_FC_trans fw g2 (fun _ q => q) (fun _ q => absurd q List.not_mem_nil)⟩, hf, rf_rt_F0 (rf_F0_C fw (Int.le_refl _)) hg, h2, by omega, rf_CB_same hcb (p3 50 rfl) (p3 56 rfl) (p3 58 rfl) (p2 0).2, Or.inr p6, fun z => absurd z p4, ⟨D', gg, gq, gv, gf', gx', e1, e2, vk_C3_n p4 zzn⟩, rfl⟩)))⟩
    · have hg2 := hg
      obtain ⟨⟨y0, y1⟩, ⟨y2, y3⟩, y4, y5⟩ := hg2
      have hr3 := hrt g1 hg
      have r73 := g1.arr 73 (by decide) rfl x2.toNat
      refine w_check_234 g1 h2 ⟨by omega, by omega⟩ (fun v1 v2 q1 q2 q3 => ?_)
      have eD : (rf_idx (rf_snoc D (.inner gj gk gu gf .leaf))).length = (rf_idx D).length + (1 + (rf_idx gf).length) := by
        rw [rf_idx_slen]
        have : (rf_idx (.inner gj gk gu gf .leaf)).length = 1 + (rf_idx gf).length + 0 := rf_s1_idx
        omega
      have hmem : ∀ i, i ∈ j :: (rf_idx D ++ (gj :: rf_idx gf)) → i ∈ j :: rf_idx (rf_snoc D (.inner gj gk gu gf .leaf)) := fun i hi => by
        rcases List.mem_cons.mp hi with rfl | hi
        · exact List.mem_cons_self
        · refine List.mem_cons_of_mem _ ((rf_idx_snoc _ _ _).mpr ?_)
          rcases List.mem_append.mp hi with hi | hi
          · exact Or.inl hi
          · refine Or.inr ?_
            show i ∈ gj :: (rf_idx gf ++ [])
            rw [List.append_nil]
            exact hi
      refine ⟨10 * rf_len gx + 5, ?_, Or.inr (Or.inl ⟨rfl, v1, v2, gx, rf_snoc D (.inner gj gk gu gf .leaf), rfl, k0, ⟨g1, rf_FC_sub g2 hmem⟩, ?_, ?_, ?_, ⟨h9u.1, ?_⟩, ?_, h41, fun q => ?_, ⟨px_snoc D' (.inner gg gq gv gf' .leaf), gx', by rw [e1, px_snoc_assoc]; rfl, e2.2.2, by rw [rf_mm_snoc]; exact vk_C2_s (g := 0) (gj := gj) (gk := (rf_rk u gj, u.2.1 82 gj)) (gv := ()) (gf2 := rf_mm u gf) (gx2 := rf_mm u gx) (gx := gx') e3 q1⟩, rfl⟩)⟩
      · have : rf_len (.inner gj gk gu gf gx) = rf_len gx + 1 := rfl
        omega
      · rw [hf, rf_snoc_assoc]
        rfl
      · rw [q3, show x3.toNat = gj by omega]
        exact y5
      · by_cases q : u.1 66 40 = 0
        · rw [q1 q]
          omega
        · rw [q2 q]
          omega
      · rw [eD]
        push_cast
        omega
      · rw [eD]
        obtain ⟨c1, c2, c3, c4⟩ := hcb
        exact ⟨by omega, by omega, by omega, by omega⟩
      · obtain ⟨A, B, a1, a2, U, a3, a4, a5, a6, a7⟩ := hap q
        have hx0 : v1 = u.2.1 73 x2.toNat := q1 q
        refine ⟨B, by rw [hx0]; exact a1.2.2, U, a3, ?_, ?_, ?_, ?_⟩
        · rw [rf_mm_snoc]
          exact rf_gt_snoc a4 ⟨A, B, rfl, a2.1, rfl⟩
        · rw [rf_mm_snoc]
          exact rf_gd_snoc a5 ⟨a2.2.1, trivial⟩
        · rw [rf_mm_snoc]
          exact rf_sc_snoc a6 ⟨a2.2.2, trivial⟩
        · rw [rf_mm_snoc, rf_cs_snoc]
          exact rf_CB_trans (t := u) (b := 0) ⟨by omega, by omega, by omega, by omega⟩ a7 (by
            have : (rf_cs (rf_mm u (.inner gj gk gu gf .leaf))).2 = (rf_cs (rf_mm u (.inner gj gk gu gf gx))).1 := rfl
            omega)
    · have fv : rf_FC u (u.1, sx_ua u.2.1 84 j x2, u.2.2) [j] := by
        have := rf_FC_84 (s := u) (r := (j : Int)) (v := x2)
        rw [Int.toNat_natCast] at this
        exact this
      have fs : rf_FC s (u.1, sx_ua u.2.1 84 j x2, u.2.2) (j :: rf_idx f) := rf_FC_trans fv g2 (fun _ q => q) (fun i hi => by have : i = j := (by simpa using hi); rw [this]; exact List.mem_cons_self)
      have d1 : ∀ i ∈ rf_idx f, i ∉ [j] := fun i hi q => hjf (by have : i = j := (by simpa using q); rw [← this]; exact hi)
      have hok : cx_I (u.1, sx_ua u.2.1 84 j x2, u.2.2) := cx_I_ua rfl rfl (F := u.1) (A := u.2.1) (B := u.2.2) g1 (by omega) (by omega)
      have hmf : rf_mm (u.1, sx_ua u.2.1 84 j x2, u.2.2) f = rf_mm u f := rf_mm_C fv d1
      have e82 : (sx_ua u.2.1 84 j x2) 82 j = u.2.1 82 j := by rw [sx_ua_ne (by decide)]
      have e83 : (sx_ua u.2.1 84 j x2) 83 j = u.2.1 83 j := by rw [sx_ua_ne (by decide)]
      have e84 : (sx_ua u.2.1 84 j x2) 84 j = x2 := by
        rw [sx_ua_same]
        exact if_pos rfl
      have erk : rf_rk (u.1, sx_ua u.2.1 84 j x2, u.2.2) j = rf_rk u j := rf_rk_eq (s := u) (t := (u.1, sx_ua u.2.1 84 j x2, u.2.2)) (by dsimp only; rw [sx_ua_ne (by decide)]) e83
      -- what is said of the whole, once the row is known
      have fin : ∀ t : sx_S, rf_FC (u.1, sx_ua u.2.1 84 j x2, u.2.2) t [] → ∀ w c, rf_is u w x2 → rf_Ap s u j f (rf_ga s (s.1 66 34).toNat) 0 w → (rf_rk u j = 3 → ∃ vs, (rf_lf2 (rf_mm u f)).2 vs ∧ vs.Nodup) → rf_CB (u.1, sx_ua u.2.1 84 j x2, u.2.2) t c → (rf_rk u j = 3 → c ≤ 4 * (rf_idx f).length) → (rf_rk u j ≠ 3 → c = 0) → ∃ x, rf_is t x x2 ∧ rf_Rd t (.inner j k uu f y) x (rf_ga s (s.1 66 34).toNat) ∧ rf_CB s t (rf_cs (rf_mm t (.inner j k uu f y))).1 := by
        intro t ft w c w1 ⟨U, ⟨u1, u2, u3, u4⟩, u5, u6, u7, u8⟩ hvs hc hc3 hcn
        have nn : ∀ i, i ∉ ([] : List Nat) := fun i => List.not_mem_nil
        have em : rf_mm t f = rf_mm u f := (rf_mm_C ft (fun i _ => nn i)).trans hmf
        have xu := rf_xu_trans ft.2.2.1 fv.2.2.1
        have t82 : t.2.1 82 j = u.2.1 82 j := (ft.2.2.2.2.1 82 j (by omega) (by omega) (nn j)).trans e82
        have t84 : t.2.1 84 j = x2 := (ft.2.2.2.2.1 84 j (by omega) (by omega) (nn j)).trans e84
        have trk : rf_rk t j = rf_rk u j := by
          have h83 : t.2.1 83 j = u.2.1 83 j := (ft.2.2.2.2.1 83 j (by omega) (by omega) (nn j)).trans e83
          have h74 : t.2.1 74 = u.2.1 74 := (ft.same 74 rfl).2.trans (fv.same 74 rfl).2
          unfold rf_rk
          rw [h74, h83]
        refine ⟨w, rf_is_up w1 xu.1, ⟨Or.inr ⟨by rw [trk]; exact u1, U, ?_, ?_, ?_⟩, Or.inr ⟨by rw [trk]; exact u1, ?_, ?_⟩, Or.inr ⟨by rw [trk]; exact u1, ?_, fun _ => trivial, ?_⟩⟩, ?_⟩
        · rw [trk, t82]
          exact rf_RH_up xu u3
        · rw [em]
          refine (rf_Rt_up xu (fun i hi => ?_)).2 _ _ u5
          rw [rf_mm_idx] at hi
          rw [ft.2.2.2.2.1 84 i (by omega) (by omega) (nn i)]
          exact fv.2.2.2.2.1 84 i (by omega) (by omega) (d1 i hi)
        · show rf_is t w (t.2.1 84 j)
          rw [t84]
          exact rf_is_up w1 xu.1
        · rw [em]
          exact u6
        · rw [trk, em]
          exact hvs
        · rw [trk, t82]
          exact u4
        · rw [em]
          exact u7
        · show rf_CB s t (1 + (if rf_rk t j = 0 then (rf_cs (rf_mm t f)).1 else (rf_cs (rf_mm t f)).2 + (if rf_rk t j = 3 then 4 * (rf_idx (rf_mm t f)).length else 0)))
          rw [trk, em, rf_mm_idx, if_neg u1]
          refine rf_CB_trans (t := (u.1, sx_ua u.2.1 84 j x2, u.2.2)) hc u8 ?_
          split
          · rename_i q
            have := hc3 q
            omega
          · rename_i q
            have := hcn q
            omega
      have hc9 : rf_CB s u (9 * (1 + (rf_idx f).length)) := by
        obtain ⟨c1, c2, c3, c4⟩ := hcb
        exact ⟨by omega, by omega, by omega, by omega⟩
      have hrk0 : u.1 66 40 = 0 → rf_rk u j ≠ 0 := fun q4 => by
        obtain ⟨w, w1, U, ⟨u1, _⟩, _⟩ := hap q4
        exact u1
      have hrk3 : u.1 66 40 = 0 → rf_rk u j = u.2.1 83 j := fun q4 => by
        obtain ⟨w, w1, U, ⟨_, u2, _⟩, _⟩ := hap q4
        exact u2
      refine w_check_262 (PD := fun t => cx_I t ∧ rf_FC (u.1, sx_ua u.2.1 84 j x2, u.2.2) t [] ∧ rf_f [40, 41, 50, 56, 58] (u.1, sx_ua u.2.1 84 j x2, u.2.2) t ∧ rf_CB s t (9 * (1 + (rf_idx f).length)) ∧ (t.1 66 40 = 0 ∨ (0 ≤ t.1 66 41 ∧ t.1 66 41 ≤ 241)) ∧ (t.1 66 40 = 0 → ∃ x, rf_is t x x2 ∧ rf_Rd t (.inner j k uu f y) x (rf_ga s (s.1 66 34).toNat) ∧ rf_CB s t (rf_cs (rf_mm t (.inner j k uu f y))).1) ∧ vk_C1 bb nb C M Γ (rf_ga s (s.1 66 34).toNat) (.inner tg tq tv f' y') t (rf_mm t (.inner j k uu f y)) x2) g1 (by omega) h2 ?_ ?_ ?_
      · intro q
        rw [ej] at q ⊢
        refine hK x2 _ hok fs ⟨h9u.1, by dsimp only; rw [hs1]; push_cast; omega⟩ (by rw [hs1]; exact hc9) h41 h2 (fun q4 => ?_) (vk_C1_a2 (hkn k0) erk e82 hmf hrk0 e3 fv.2.2.1.1 id (fun u40 o3 _ => ?_) (fun u40 _ => u40))
        rotate_left
        · exfalso
          have := hrk3 u40
          omega
        obtain ⟨w, w1, w2⟩ := hap q4
        have w2' := w2
        obtain ⟨U, ⟨u1, u2, _⟩, _⟩ := w2'
        have hn3 : rf_rk u j ≠ 3 := by
          rw [u2]
          exact q.resolve_left (fun z => z q4)
        exact fin _ (rf_FC_refl _ _) w 0 w1 w2 (fun z => absurd z hn3) ⟨by omega, by omega, by omega, by omega⟩ (fun z => absurd z hn3) (fun _ => rfl)
      · intro q4 q3 K' hK'
        rw [ej] at q3 ⊢
        obtain ⟨w, w1, w2⟩ := hap q4
        have w2' := w2
        obtain ⟨U, ⟨u1, u2, u3, u4⟩, u5, u6, u7, u8⟩ := w2'
        have hcs := (rf_cs_gd (n := rf_mm u f)).2 u6
        rw [rf_mm_idx] at hcs
        have hhf := rf_ht_n (j := j) (u := uu) (f := f) (x := y) k0
        have hrtu : rf_rt u f (u.2.1 80 j) := by
          rw [(g2.same 80 rfl).2]
          exact rf_rt_F0 (rf_F0_C g2 (Int.le_refl _)) m4
        have hymu := rf_mm_ym hrtu
        have hRBu : rf_RB u (4 * (rf_idx f).length) := rf_RB_CB hRB u8 (by omega)
        have dm : ∀ i ∈ rf_idx (rf_mm u f), i ∉ [j] := fun i hi => d1 i (by rw [rf_mm_idx] at hi; exact hi)
        refine c_q_distinct hsL Z (d + 1) hZ (by omega) (rf_mm u f) U w (rf_ga s (s.1 66 34).toNat) r _ K' hok ⟨by omega, by omega⟩ ?_ (by rw [rf_mm_idx]; exact hnf) ((rf_Rt_C fv dm).2 _ _ u5) u3.1 u6 u7 (by rw [rf_mm_ht hrtu]; omega) (by dsimp only; omega) (by rw [rf_mm_idx]; exact hRBu) q4 (fun z t c1 c2 c3 c4 c5 c6 c7 => hK' z t ⟨c1, c2, c3, ?_, c6, fun q5 => ?_, ?_⟩)
        · rw [ej]
          have := rf_ym_C fv dm hymu
          dsimp only
          rw [sx_ua_ne (by decide)]
          exact this
        · rw [rf_mm_idx] at c4
          exact rf_CB_trans (t := (u.1, sx_ua u.2.1 84 j x2, u.2.2)) c4 u8 (by omega)
        · rw [rf_mm_idx] at c4
          exact fin t c2 w _ w1 w2 (fun _ => c5 q5) c4 (fun _ => Nat.le_refl _) (fun z => absurd (u2.trans q3) z)
        · have nn : ∀ i, i ∉ ([] : List Nat) := fun i => List.not_mem_nil
          have em : rf_mm t f = rf_mm u f := (rf_mm_C c2 (fun i _ => nn i)).trans hmf
          have t82 : t.2.1 82 j = u.2.1 82 j := (c2.2.2.2.2.1 82 j (by omega) (by omega) (nn j)).trans e82
          have trk : rf_rk t j = rf_rk u j := by
            have h83 : t.2.1 83 j = u.2.1 83 j := (c2.2.2.2.2.1 83 j (by omega) (by omega) (nn j)).trans e83
            have h74 : t.2.1 74 = u.2.1 74 := (c2.same 74 rfl).2.trans (fv.same 74 rfl).2
            unfold rf_rk
            rw [h74, h83]
          refine vk_C1_a2 (hkn k0) trk t82 em hrk0 e3 (rf_tu_trans c2.2.2.1.1 fv.2.2.1.1) (fun _ => q4) (fun _ _ hl => ?_) (fun _ z => absurd (u2.trans q3) z)
          rw [← vk_lk_pt hso hsl hl]
          exact ⟨c5, fun hv => Classical.byContradiction (fun hne => c7 hne hv)⟩
      · rintro t ⟨c1, c2, c3, c4, c5, c6, c7⟩
        have e9 := c3 9 rfl
        dsimp only at e9
        exact hK x2 t c1 (rf_FC_trans c2 fs (fun _ q => q) (fun _ q => absurd q List.not_mem_nil)) (by rw [hs1]; push_cast; omega) (by rw [hs1]; exact c4) c5 h2 c6 c7
theorem c_v_check {sL : Nat} {sx : Nat → Int32} (hsL : sL ≤ 3072) (bb : Nat → Int) (nb mt : Int) (C M : List (Int × qx_T)) (hmt : mt ≤ 242) : ∀ Z d : Nat, Z ≤ 1000 → 11 * Z + 62 ≤ d → ∀ (n : rf_N) (n' : px_N) (Γ : List (Int × qx_T)) (r : Int) (s : sx_S) (K : Int → sx_S → Prop), cx_I s → rf_rt s n r → (rf_idx n).Nodup → (rf_rw s n).1 → (rf_ht n).1 ≤ Z → rf_CK s → s.1 66 40 = 0 → (2 ≤ s.1 66 9 ∧ s.1 66 9 + (rf_s1 n : Int) ≤ 5990) → (0 ≤ s.1 66 34 ∧ s.1 66 34 + ((rf_ht n).1 : Int) ≤ 58) → rf_RB s (9 * rf_s1 n) → px_E bb nb mt C M s → px_EV mt s Γ → px_is s n n' → px_tb mt n' → (∀ (z : Int) (t : sx_S), cx_I t → rf_FC s t (rf_al1 n) → (s.1 66 9 ≤ t.1 66 9 ∧ t.1 66 9 ≤ s.1 66 9 + (rf_s1 n : Int)) → rf_CB s t (9 * rf_s1 n) → (t.1 66 40 = 0 ∨ (0 ≤ t.1 66 41 ∧ t.1 66 41 ≤ 241)) → (0 ≤ z ∧ z ≤ 5999) → (t.1 66 40 = 0 → ∃ x, rf_is t x z ∧ rf_Rd t n x (rf_ga s (s.1 66 34).toNat) ∧ rf_CB s t (rf_cs (rf_mm t n)).1) → vk_C1 bb nb C M Γ (rf_ga s (s.1 66 34).toNat) n' t (rf_mm t n) z → K z t) → sx_C sL sx d 171 [.inr (.inl 66), .inl r] s K := by
  intro Z
  induction Z with
  | zero =>
    intro d _ hd n n' Γ r s K hI hn hnd hrw hht
    cases n with
    | leaf => exact hrw.elim
    | inner j k u f y =>
      exfalso
      by_cases k0 : k.1 = 0
      · have := rf_ht_0 (j := j) (u := u) (f := f) (x := y) k0
        omega
      · have := rf_ht_n (j := j) (u := u) (f := f) (x := y) k0
        omega
  | succ Z ih =>
    intro d hZ hd
    obtain ⟨e, rfl⟩ : ∃ e, d = e + 2 := ⟨d - 2, by omega⟩
    exact vk_ck_ok hsL hmt (by omega) (by omega) (ih (e + 1) (by omega) (by omega))
end
section
/-! ===== what build makes has the values of the desk's trees ===== -/
theorem vk_pv_wt {SN : Int → Int → Prop} {C M : List (Int × qx_T)} {g : Nat → qx_T} : ∀ {f : px_N} {Γ : List (Int × qx_T)} {ls : List Nat} {x y : qx_T}, (px_pv SN f).2 Γ ls → (px_wt SN C M f).2 Γ (dz_as (ls.map g) x) y → x = y
  | .leaf, _, ls, x, y, h, h' => by
    have e : ls = [] := h
    subst e
    exact h'
  | .inner a b c d f, Γ, ls, x, y, h, h' => by
    obtain ⟨w, r, e, _, z2⟩ := px_pv_c.mp h
    subst e
    obtain ⟨A, B, w1, _, w3⟩ := px_wt_c.mp h'
    have w2 : qx_a (g w) (dz_as (r.map g) x) = qx_a A B := w1
    obtain ⟨_, e2⟩ := qx_a_inj w2
    rw [← e2] at w3
    exact vk_pv_wt z2 w3
theorem vk_tm_wt {SN : Int → Int → Prop} {C M : List (Int × qx_T)} {TV : Int → qx_T → Prop} {AR : Nat → List Int} : ∀ {n : px_N}, (∀ {W : rf_N} {Γ : List (Int × qx_T)} {ρ : List Int} {x y : qx_T}, (vl_tm SN C M TV AR n).1 W Γ ρ x → (px_wt SN C M n).1 Γ y → x = y) ∧ (∀ {F : rf_N} {Γ : List (Int × qx_T)} {ρ : List Int} {U L L' : qx_T}, (vl_tm SN C M TV AR n).2 F Γ ρ U L → (px_wt SN C M n).2 Γ U L' → L = L')
  | .leaf => ⟨fun h => h.elim, fun h h' => h.2.symm.trans h'⟩
  | .inner g q u f n => by
    have hf := vk_tm_wt (SN := SN) (C := C) (M := M) (TV := TV) (AR := AR) (n := f)
    have hn := vk_tm_wt (SN := SN) (C := C) (M := M) (TV := TV) (AR := AR) (n := n)
    have one : ∀ {W : rf_N} {Γ : List (Int × qx_T)} {ρ : List Int} {x y : qx_T}, (vl_tm SN C M TV AR (.inner g q u f n)).1 W Γ ρ x → (px_wt SN C M (.inner g q u f n)).1 Γ y → x = y := by
      intro W Γ ρ x y h h'
      rcases h with ⟨g0, j, v, F, B, h1, h2, h3, h4⟩ | ⟨g0, k, i, U, h0, h1, h2, h3⟩ <;> rcases h' with ⟨g0', _, B', w1, w2⟩ | ⟨g0', k', i', U', w1, w2, w3⟩
      · rw [h4, w2, hf.1 h3 w1]
      · exact absurd g0 g0'
      · exact absurd g0' g0
      · obtain ⟨_, _, e3⟩ := px_hd_fun h1 w1
        rw [← e3] at w2
        rcases h3 with ⟨_, F, r1, _⟩ | ⟨_, ls, r1, _, r3, _⟩
        · exact hf.2 r1 w2
        · rw [r3] at w2
          exact vk_pv_wt r1 w2
    refine ⟨one, fun {F Γ ρ U L L'} h h' => ?_⟩
    obtain ⟨W, X, A, U', _, a3, a4, a5⟩ := vl_tm_c.mp h
    obtain ⟨A', B', w1, w2, w3⟩ := px_wt_c.mp h'
    obtain ⟨_, e2⟩ := qx_a_inj (a3.symm.trans w1)
    rw [← e2] at w3
    exact hn.2 a5 w3
theorem vq_up_ag {us us' ρ ρ' : List Int} {L : Int} {e e' : Int → Int} (h : ∀ c ∈ us, c ∉ ρ) (h' : ∀ c ∈ us', c ∉ ρ') (ha : vl_ag ρ ρ' e e') : vl_ag ρ ρ' (vq_up us L e) (vq_up us' L e') := by
  refine ⟨ha.1, fun l hl => ?_⟩
  rw [vq_up_no (fun q => h _ q (vl_id_mem hl)), vq_up_no (fun q => h' _ q (vl_id_mem (by rw [← ha.1]; exact hl)))]
  exact ha.2 l hl
theorem vq_up_eq {us us' : List Int} {L : Int} {e e' : Int → Int} (hn : us.Nodup) (hn' : us'.Nodup) (hl : us.length = us'.length) : us.map (vq_up us L e) = us'.map (vq_up us' L e') := by
  apply List.ext_getElem?
  intro k
  by_cases hk : k < us.length
  · rw [vq_up_map hn L e k hk, vq_up_map hn' L e' k (by omega)]
  · rw [List.getElem?_eq_none (by rw [List.length_map]; omega), List.getElem?_eq_none (by rw [List.length_map]; omega)]
theorem vk_sh_a {x y : qx_T} {A B : rf_T} (h : qx_sh (qx_a x y) = rf_a A B) : A = qx_sh x ∧ B = qx_sh y := by
  have h' : rf_a (qx_sh x) (qx_sh y) = rf_a A B := h
  injection h' with _ _ _ h1 h2
  exact ⟨h1.symm, h2.symm⟩
theorem vq_oc_sb {W X : rf_N} (hW : vx_sg W) {i : Nat} {m : Int} (h : vq_oc W i m ∨ vq_oc X i m) : vq_oc (vx_sb W X) i m := by
  obtain ⟨j, k, r, F, rfl⟩ := hW
  show vq_oc (.inner j (k, r) () F X) i m
  rcases h with (h | h | h) | h
  · exact Or.inl h
  · exact Or.inr (Or.inl h)
  · exact h.elim
  · exact Or.inr (Or.inr h)
/-- what counts of what build makes is all -/
theorem vq_bm_c1 {RP : Nat → rf_T → Prop} {RW : Nat → Int → List Int → Prop} {i0 : Int} : ∀ {m : rf_N}, (∀ N, (vq_bm RP RW i0 m).1 N → vr_1 N = N) ∧ (∀ F, (vq_bm RP RW i0 m).2 F → vr_c F = F)
  | .leaf => ⟨fun _ h => h.elim, fun F h => by
    have e : F = .leaf := h
    rw [e]
    rfl⟩
  | .inner j k u f x => by
    have hf := vq_bm_c1 (RP := RP) (RW := RW) (i0 := i0) (m := f)
    have hx := vq_bm_c1 (RP := RP) (RW := RW) (i0 := i0) (m := x)
    have one : ∀ N, (vq_bm RP RW i0 (.inner j k u f x)).1 N → vr_1 N = N := by
      rintro N (⟨_, i, F, rfl, h⟩ | ⟨_, F, y, _, h, us, _, _, _, c, _⟩ | ⟨_, vs, ws, y, i, _, _, _, us, _, _, _, _, c, _⟩)
      · show (.inner i (0, k.2) () (vr_f 0 F) .leaf : rf_N) = .inner i (0, k.2) () F .leaf
        rw [vr_f_0 rfl, hf.1 F h]
      · exact c (hf.2 F h)
      · exact c
    refine ⟨one, fun F h => ?_⟩
    obtain ⟨W, X, ⟨s1, s2⟩, b1, b2⟩ := vq_bm_c.mp h
    have e1 := vq_1_c (one W b1)
    have e2 := hx.2 X b2
    obtain ⟨p1, p2, p3, G, rfl⟩ := s1
    subst s2
    have e3 : (.inner p1 (p2, p3) () (vr_f p2 G) .leaf : rf_N) = .inner p1 (p2, p3) () G .leaf := e1
    injection e3 with _ _ _ e4 _
    show (.inner p1 (p2, p3) () (vr_f p2 G) (vr_c X) : rf_N) = .inner p1 (p2, p3) () G X
    rw [e4, e2]
/-- types of what is bound -/
def vk_en (SN : Int → Int → Prop) (s : sx_S) (Γ : List (Int × qx_T)) (ρ : List Int) : Prop := ∀ (a : Int) (i : Nat) (u : qx_T) (A : rf_T), px_vr SN Γ a i u → rf_vt s (px_id ρ i) A → A = qx_sh u
theorem vk_en_0 {SN : Int → Int → Prop} {s : sx_S} : vk_en SN s [] [] := fun _ _ _ _ h _ => h.elim
theorem vk_en_1 {SN : Int → Int → Prop} {s : sx_S} {Γ : List (Int × qx_T)} {ρ : List Int} {q : Int × qx_T} {v : Int} (h : vk_en SN s Γ ρ) (hl : ρ.length = Γ.length) (hv : rf_vt s v (qx_sh q.2)) : vk_en SN s (q :: Γ) (v :: ρ) := by
  intro a i u A h1 h2
  rcases h1 with ⟨_, e1, e2⟩ | ⟨_, h1⟩
  · rw [e1, ← hl, px_id_top] at h2
    rw [e2]
    exact rf_ty_inj h2.2 hv.2
  · have := px_vr_lt h1
    rw [px_id_cons (by omega)] at h2
    exact h a i u A h1 h2
section VKV
variable {SN : Int → Int → Prop} {C M : List (Int × qx_T)} {s : sx_S} {TV : Int → qx_T → Prop} {AR AR' : Nat → List Int} {th : Int → rf_N} {RP : Nat → rf_T → Prop} {RW : Nat → Int → List Int → Prop} {OC : Nat → Int → Prop}
theorem vk_val (hon : ∀ m, vx_on (th m)) (hC : ∀ a k u A, px_cf SN C a k u → rf_is s A (s.2.1 96 k) → A = qx_sh u) (hM : ∀ a k u A, px_cf SN M a k u → rf_is s A (s.2.1 123 k) → A = qx_sh u) (hRP : ∀ j y y', rf_RP s j y → RP j y' → y' = y) (hRW : ∀ i m ws, RW i m ws → OC i m → (0 ≤ m ∧ m < s.1 66 45) → AR i = ws) : ∀ {m : rf_N} {n : px_N}, (∀ {N W : rf_N} {Γ : List (Int × qx_T)} {ρ ρ' : List Int} {x : qx_T}, px_so ρ → ρ.length = Γ.length → (∀ v ∈ ρ, v < s.1 66 58) → vk_en SN s Γ ρ → (vk_lk SN C M m n).1 Γ ρ → (rf_gt (rf_RH s) (rf_RP s) m).1 (qx_sh x) → (vq_bm RP RW (s.1 66 58) m).1 N → (∀ i r, vq_oc N i r → OC i r) → (vl_tm SN C M TV AR' n).1 W Γ ρ' x → ∀ e e' L, vl_ag ρ ρ' e e' → vx_val th AR N e L = vx_val th AR' W e' L) ∧ (∀ {F F' : rf_N} {Γ : List (Int × qx_T)} {ρ ρ' : List Int} {U L : qx_T} {ut : rf_T}, px_so ρ → ρ.length = Γ.length → (∀ v ∈ ρ, v < s.1 66 58) → vk_en SN s Γ ρ → (vk_lk SN C M m n).2 Γ ρ → (rf_gt (rf_RH s) (rf_RP s) m).2 (qx_sh U) ut → (vq_bm RP RW (s.1 66 58) m).2 F → (∀ i r, vq_oc F i r → OC i r) → (vl_tm SN C M TV AR' n).2 F' Γ ρ' U L → ∀ e e' K, vl_ag ρ ρ' e e' → vx_val th AR F e K = vx_val th AR' F' e' K)
  | .leaf, .leaf => ⟨fun _ _ _ _ h => h.elim, fun {F F' Γ ρ ρ' U L ut} _ _ _ _ _ _ h5 _ h7 e e' K _ => by
    have e1 : F = .leaf := h5
    have e2 : F' = .leaf := h7.1
    rw [e1, e2]
    rfl⟩
  | .leaf, .inner _ _ _ _ _ => ⟨fun _ _ _ _ h => h.elim, fun _ _ _ _ h => h.elim⟩
  | .inner _ _ _ _ _, .leaf => ⟨fun _ _ _ _ h => h.elim, fun _ _ _ _ h => h.elim⟩
  | .inner j k u f x, .inner g q u0 f' x' => by
    have hf := vk_val hon hC hM hRP hRW (m := f) (n := f')
    have hx := vk_val hon hC hM hRP hRW (m := x) (n := x')
    have one : ∀ {N W : rf_N} {Γ : List (Int × qx_T)} {ρ ρ' : List Int} {y : qx_T}, px_so ρ → ρ.length = Γ.length → (∀ v ∈ ρ, v < s.1 66 58) → vk_en SN s Γ ρ → (vk_lk SN C M (.inner j k u f x) (.inner g q u0 f' x')).1 Γ ρ → (rf_gt (rf_RH s) (rf_RP s) (.inner j k u f x)).1 (qx_sh y) → (vq_bm RP RW (s.1 66 58) (.inner j k u f x)).1 N → (∀ i r, vq_oc N i r → OC i r) → (vl_tm SN C M TV AR' (.inner g q u0 f' x')).1 W Γ ρ' y → ∀ e e' L, vl_ag ρ ρ' e e' → vx_val th AR N e L = vx_val th AR' W e' L := by
      intro N W Γ ρ ρ' y hs hl hlt hen hlk hgt hbm hoc htm e e' L ha
      rcases hlk with ⟨k0, g0, hw, hlk⟩ | ⟨k0, g0, i, U0, hh, ⟨h2, h2n⟩, hlk⟩
      · have hgt' : ∃ A B, qx_sh y = rf_a A B ∧ rf_vt s k.2 A ∧ (rf_gt (rf_RH s) (rf_RP s) f).1 B := by
          rcases hgt with ⟨_, A, B, e1, ⟨_, e2⟩, e3⟩ | ⟨z, _⟩
          · refine ⟨A, B, e1, ?_, e3⟩
            rcases e2 with z | z | z | z
            · exact z.2
            · exact absurd z.1 (by omega)
            · exact z.2
            · exact absurd z.1 (by omega)
          · exact absurd k0 z
        obtain ⟨A, B, e1, e2, e3⟩ := hgt'
        have hbm' : ∃ (i : Nat) (F : rf_N), N = rf_n i 0 k.2 F .leaf ∧ (vq_bm RP RW (s.1 66 58) f).1 F := by
          rcases hbm with ⟨_, z⟩ | ⟨z, _⟩ | ⟨z, _⟩
          · exact z
          · omega
          · omega
        obtain ⟨i, F, rfl, hbF⟩ := hbm'
        rcases htm with ⟨_, j', v, F', B', rfl, ⟨v1, _⟩, t3, t4⟩ | ⟨z, _⟩
        · subst t4
          obtain ⟨a1, a2⟩ := vk_sh_a e1
          subst a1 a2
          refine vl_lam ?_
          refine hf.1 (Γ := q :: Γ) (ρ := k.2 :: ρ) (ρ' := v :: ρ') ⟨hw, hs⟩ (by rw [List.length_cons, List.length_cons, hl]) (fun w hw' => ?_) (vk_en_1 hen hl e2) hlk e3 hbF (fun a b c => hoc a b (Or.inr (Or.inl c))) t3 _ _ _ (vl_ag_up (fun z => by have := hw _ z; omega) v1 ha)
          rcases List.mem_cons.mp hw' with rfl | z
          · exact e2.1.2
          · exact hlt w z
        · exact absurd g0 z
      · have hgt' : ∃ U', rf_RH s j k.1 k.2 U' ∧ (rf_gt (rf_RH s) (rf_RP s) f).2 U' (qx_sh y) ∧ rf_RP s j (qx_sh y) := by
          rcases hgt with ⟨z, _⟩ | ⟨_, z⟩
          · exact absurd z k0
          · exact z
        obtain ⟨U', ⟨_, e1⟩, e2, e3⟩ := hgt'
        rcases htm with ⟨z, _⟩ | ⟨_, k', i', U, h, hh', ⟨h2', h2n'⟩, t3⟩
        · exact absurd z g0
        obtain ⟨f1, f2, f3⟩ := px_hd_fun hh hh'
        subst f1 f2 f3
        have hU : U' = qx_sh U0 := by
          rcases hh with ⟨z, hv⟩ | ⟨z, _, hv⟩ | ⟨z, _, _, hv⟩
          · have hvt : rf_vt s k.2 U' := by
              rcases e1 with y1 | y1 | y1 | y1
              · exact y1.2
              · exact absurd y1.1 (by omega)
              · exact y1.2
              · exact absurd y1.1 (by omega)
            rw [h2 z] at hvt
            exact hen _ _ _ _ hv hvt
          · have hvt : rf_is s U' (s.2.1 96 k.2.toNat) := by
              rcases e1 with y1 | y1 | y1 | y1
              · exact absurd y1.1 (by omega)
              · exact y1.2.2
              · exact absurd y1.1 (by omega)
              · exact absurd y1.1 (by omega)
            rw [h2n (by omega), Int.toNat_natCast] at hvt
            exact hC _ _ _ _ hv hvt
          · have hvt : rf_is s U' (s.2.1 123 k.2.toNat) := by
              rcases e1 with y1 | y1 | y1 | y1
              · exact absurd y1.1 (by omega)
              · exact absurd y1.1 (by omega)
              · exact absurd y1.1 (by omega)
              · exact y1.2.2
            rw [h2n (by omega), Int.toNat_natCast] at hvt
            exact hM _ _ _ _ hv hvt
        subst hU
        have hil : k.1 = 2 → i < Γ.length := fun z => by
          rcases hh with ⟨_, hv⟩ | ⟨z', _⟩ | ⟨z', _⟩
          · exact px_vr_lt hv
          · omega
          · omega
        rcases hbm with ⟨z, _⟩ | ⟨k12, F, y', b1, b2, us, c1, c2, c3, _, c4, c5⟩ | ⟨k3, vs, ws, y', i', b1, b2, b3, us, c1, c2, c3, c4, _, c5, c6⟩
        · exact absurd z k0
        · have ey := hRP _ _ _ e3 b1
          subst ey
          rcases t3 with ⟨_, F', r1, r2⟩ | ⟨z, _⟩
          · obtain ⟨us', d1, d2, d3, d4⟩ := vq_c1 (by omega) (by omega) r2
            have hus : ∀ c ∈ us, c ∉ ρ := fun c hc q => by
              have := c3 c hc
              have := hlt c q
              omega
            have hag := vq_up_ag (L := L) hus d3 ha
            have hlen : us.length = us'.length := by rw [c1, d1]
            rw [c5 th AR e L hon, d4 th AR' e' L hon, ← hlen, hf.2 hs hl hlt hen hlk e2 b2 (fun a b c => hoc a b (c4 a b c)) r1 _ _ (L + (us.length : Int)) hag]
            have eh : (if k.1 = 2 then vq_up us L e k.2 else k.2) = (if k.1 = 2 then vq_up us' L e' h else h) := by
              by_cases z : k.1 = 2
              · rw [if_pos z, if_pos z, h2 z, h2' z]
                exact hag.2 i (by rw [hl]; exact hil z)
              · rw [if_neg z, if_neg z, h2n z, h2n' z]
            rw [eh]
          · omega
        · have ey := hRP _ _ _ e3 b1
          subst ey
          rcases t3 with ⟨z, _⟩ | ⟨_, ls, r1, r1', r3, r2⟩
          · exact absurd k3 z
          · obtain ⟨us', d1, d2, d3, d4⟩ := vq_c3 r2
            obtain ⟨ls', m1, m2⟩ := ((vk_lk_pv hs hl).2 hlk vs).mp b2
            have el : ls' = ls := px_pv_fun.2 m2 r1
            subst el
            have hus : ∀ c ∈ us, c ∉ ρ := fun c hc q => by
              have := c3 c hc
              have := hlt c q
              omega
            have hag := vq_up_ag (L := L) hus d3 ha
            have hlen : us.length = us'.length := by rw [c1, d1]
            have hrg : 0 ≤ k.2 ∧ k.2 < s.1 66 45 := by
              rcases e1 with y1 | y1 | y1 | y1
              · exact absurd y1.1 (by omega)
              · exact absurd y1.1 (by omega)
              · exact absurd y1.1 (by omega)
              · exact y1.2.1
            rw [c6 th AR e L hon (hRW _ _ _ b3 (hoc _ _ c5) hrg), d4 th e' L hon, ← hlen]
            have e4 : ws.map (vq_up us L e) = (ls'.map (vl_id ρ') ++ us').map (vq_up us' L e') := by
              rw [c4, m1, List.map_append, List.map_append, vq_up_eq c2 d2 hlen]
              congr 1
              rw [List.map_map, List.map_map]
              exact List.map_congr_left (fun l hl' => hag.2 l (by rw [hl]; exact r1' l hl'))
            rw [e4, h2n (by omega), h2n' (by omega)]
    refine ⟨one, fun {F F' Γ ρ ρ' U L ut} hs hl hlt hen hlk hgt hbm hoc htm e e' K ha => ?_⟩
    obtain ⟨W, X, A, U1, ⟨a1, a2⟩, a3, a4, a5⟩ := vl_tm_c.mp htm
    obtain ⟨V, Y, ⟨b1, b2⟩, b3, b4⟩ := vq_bm_c.mp hbm
    obtain ⟨A', B', d1, d2, d3⟩ := rf_gt_2.mp hgt
    subst a3
    obtain ⟨e1, e2⟩ := vk_sh_a d1
    subst e1 e2
    subst b2
    have o1 := one hs hl hlt hen hlk.1 d2 b3 (fun a b c => hoc a b (vq_oc_sb b1 (Or.inl c))) a4 e e' K ha
    have o2 := hx.2 hs hl hlt hen hlk.2 d3 b4 (fun a b c => hoc a b (vq_oc_sb b1 (Or.inr c))) a5 e e' K ha
    obtain ⟨p1, p2, p3, G, rfl⟩ := b1
    obtain ⟨p1', p2', p3', G', rfl⟩ := a1
    rw [a2]
    show vx_val th AR (.inner p1 (p2, p3) () G Y) e K = vx_val th AR' (.inner p1' (p2', p3') () G' X) e' K
    rw [vx_val_1 hon, vx_val_1 hon p1', o2]
    have t : vx_val th AR (.inner p1 (p2, p3) () G .leaf) e K = vx_val th AR' (.inner p1' (p2', p3') () G' .leaf) e' K := o1
    rw [t]
end VKV
end
section
/-! ===== what equation leaves: sides with the values of the text's ===== -/
theorem vq_oc_no {K R F X : Nat → Int} {B : Int} : ∀ {N : rf_N} {z : Int} {i : Nat} {m : Int}, rf_nd K R F X B N z → vq_oc N i m → R i = m
  | .leaf, _, _, _, _, h => h.elim
  | .inner j k _ f x, z, i, m, ⟨_, ⟨_, h2⟩, h3, h4⟩, h => by
    rcases h with ⟨_, e1, e2⟩ | h | h
    · rw [← e1, ← e2]
      exact h2
    · exact vq_oc_no h3 h
    · exact vq_oc_no h4 h
def vk_RX (s : sx_S) (i : Nat) (m : Int) (ws : List Int) : Prop := vq_RW s i m ws ∧ s.2.1 101 i = m ∧ 0 ≤ m ∧ m < s.1 66 45
/-- nodes, rows, unknowns and types stay -/
def vk_U (s t : sx_S) : Prop := True → (s.1 66 50 ≤ t.1 66 50 ∧ s.1 66 56 ≤ t.1 66 56 ∧ s.1 66 45 ≤ t.1 66 45 ∧ rf_tu s t) ∧ rf_ag 100 103 (s.1 66 50) s t ∧ ∀ j : Nat, ((j : Int) < s.1 66 50 → t.2.1 104 j = s.2.1 104 j) ∧ ((j : Int) < s.1 66 56 → t.2.1 105 j = s.2.1 105 j) ∧ ((j : Int) < s.1 66 45 → t.2.1 123 j = s.2.1 123 j)
theorem vk_U_Q {s t : sx_S} (ha : rf_ag 100 103 (s.1 66 50) s t) (hx : rf_xu s t) : vk_U s t := fun _ => by
  have e := (hx.2 0).1
  exact ⟨⟨e.2.2.1, e.2.1, Int.le_of_eq e.2.2.2.2.symm, hx.1⟩, ha, fun j => ⟨(hx.2 j).2.2.2.1, (hx.2 j).2.2.1, fun _ => (hx.2 j).2.2.2.2.2⟩⟩
theorem vk_U_D {s t : sx_S} (hF : cx_F [(66, 66), (95, 97), (123, 123)] s t) (hf : rf_f [40, 41, 42, 45] s t) (h45 : s.1 66 45 ≤ t.1 66 45) (h123 : rf_ag 123 123 (s.1 66 45) s t) : vk_U s t := fun _ => by
  have e9 := hf 9 rfl
  refine ⟨⟨Int.le_of_eq (hf 50 rfl).symm, Int.le_of_eq (hf 56 rfl).symm, h45, fun j => ⟨Int.le_of_eq e9.symm, fun _ => ⟨by rw [(hF.same 72 rfl).2], by rw [(hF.same 73 rfl).2]⟩⟩⟩, fun p j h1 h2 h3 => ?_, fun j => ⟨fun _ => by rw [(hF.same 104 rfl).2], fun _ => by rw [(hF.same 105 rfl).2], fun h => h123 123 j (by omega) (by omega) h⟩⟩
  obtain rfl | rfl | rfl | rfl : p = 100 ∨ p = 101 ∨ p = 102 ∨ p = 103 := by omega
  · rw [(hF.same 100 rfl).2]
  · rw [(hF.same 101 rfl).2]
  · rw [(hF.same 102 rfl).2]
  · rw [(hF.same 103 rfl).2]
theorem vk_RX_up {s t : sx_S} (h : vk_U s t) {i : Nat} {m : Int} {ws : List Int} (g : vk_RX s i m ws) : vk_RX t i m ws := by
  obtain ⟨⟨u1, u2, u3, u4⟩, ua, uj⟩ := h trivial
  obtain ⟨⟨⟨g1, ⟨g2, g3⟩, g4⟩, x, g5, g6⟩, g7, g8, g9⟩ := g
  have e := (uj i).1 g1
  refine ⟨⟨⟨by omega, ⟨by omega, by omega⟩, ?_⟩, x, ?_, g6⟩, by rw [ua 101 i (by omega) (by omega) g1]; exact g7, g8, by omega⟩
  · rw [e, ← g4]
    rw [rf_rl_len]
    exact rf_rl_eq (fun q hq => (uj _).2.1 (by omega))
  · rw [(uj m.toNat).2.2 (by omega)]
    exact rf_is_up g5 u4
/-- the tree at z has the values of the desk's trees of this TERM -/
def vk_sd (SN : Int → Int → Prop) (C M : List (Int × qx_T)) (n : px_N) (s : sx_S) (z : Int) : Prop := ∃ N, (rf_no s N z ∧ vr_1 N = N) ∧ ∀ (th : Int → rf_N) (AR : Nat → List Int), (∀ m, vx_on (th m)) → (∀ i m ws, vk_RX s i m ws → AR i = ws) → ∀ (TV : Int → qx_T → Prop) (AR' : Nat → List Int) (W : rf_N) (x : qx_T) (e e' : Int → Int) (L : Int), (vl_tm SN C M TV AR' n).1 W [] [] x → vx_val th AR N e L = vx_val th AR' W e' L
theorem vk_sd_up {s t : sx_S} (h : vk_U s t) {SN : Int → Int → Prop} {C M : List (Int × qx_T)} {n : px_N} {z : Int} (g : vk_sd SN C M n s z) : vk_sd SN C M n t z := by
  obtain ⟨N, ⟨h1, h3⟩, h2⟩ := g
  exact ⟨N, ⟨rf_no_up (h trivial).2.1 (h trivial).1.1 h1, h3⟩, fun th AR hon hAR => h2 th AR hon (fun i m ws q => hAR i m ws (vk_RX_up h q))⟩
theorem vk_cf_e {SN : Int → Int → Prop} {a : Int} : ∀ {Γ : List (Int × qx_T)} {k : Nat} {x : qx_T}, px_cf SN Γ a k x → ∃ q, Γ[k]? = some q ∧ q.2 = x
  | [], _, _, h => h.elim
  | q :: Γ, k, x, h => by
    rcases h with ⟨_, h2, h3⟩ | ⟨_, j, h2, h3⟩
    · subst h2
      exact ⟨q, rfl, h3.symm⟩
    · obtain ⟨q', e1, e2⟩ := vk_cf_e h3
      subst h2
      exact ⟨q', by rw [List.getElem?_cons_succ]; exact e1, e2⟩
theorem vk_DL {p q f : Nat} {m : Int} {u s : sx_S} {L : List (Int × qx_T)} {SN : Int → Int → Prop} (hD : px_DL p q f m u L) (tu : rf_tu u s) (h9 : 2 ≤ s.1 66 9) (hq : ∀ j, s.2.1 q j = u.2.1 q j) : ∀ a k x A, px_cf SN L a k x → rf_is s A (s.2.1 q k) → A = qx_sh x := fun a k x A h1 h2 => by
  obtain ⟨e, e1, e2⟩ := vk_cf_e h1
  have hk : k < L.length := (List.getElem?_eq_some_iff.mp e1).1
  obtain ⟨e', d1, _, _, d4⟩ := (hD trivial).2 k hk
  have ee : e' = e := Option.some.inj (d1.symm.trans e1)
  rw [ee, e2] at d4
  rw [hq k] at h2
  exact rf_ty_inj h2 (qx_ty_sh h9 (qx_is_up d4 tu))
theorem vk_sd_mk {b : Nat → Int} {n mt : Int} {C M : List (Int × qx_T)} {u s t : sx_S} (hE : px_E b n mt C M u) (x0 : rf_xu u s) (h9 : 2 ≤ s.1 66 9) (x1 : rf_xu s t) (h84 : t.2.1 84 = s.2.1 84) {m N : rf_N} {p : px_N} {y : qx_T} {z : Int} (hw : (px_wt (px_SN b n) C M p).1 [] y) (hg : (rf_gt (rf_RH s) (rf_RP s) m).1 (qx_sh y)) (hl : (vk_lk (px_SN b n) C M m p).1 [] []) (hN : rf_no t N z) (hb : (vq_bm (rf_RP t) (vq_RW t) (s.1 66 58) m).1 N) : vk_sd (px_SN b n) C M p t z := by
  obtain ⟨_, hC, hM⟩ := hE trivial
  refine ⟨N, ⟨hN, vq_bm_c1.1 N hb⟩, fun th AR hon hAR TV AR' W x e e' L htm => ?_⟩
  have ex := vk_tm_wt.1 htm hw
  subst ex
  refine (vk_val (s := s) (RP := rf_RP t) (RW := vq_RW t) (OC := vq_oc N) hon (vk_DL hC x0.1 h9 (fun j => (x0.2 j).2.2.2.2.1)) (vk_DL hM x0.1 h9 (fun j => (x0.2 j).2.2.2.2.2)) (fun j y y' h1 h2 => ?_) (fun i m ws h1 h2 h3 => hAR i m ws ⟨h1, vq_oc_no hN h2, h3.1, by have := (x1.2 0).1.2.2.2.2; omega⟩)).1 (Γ := []) (ρ := []) (ρ' := []) trivial rfl (fun v hv => absurd hv List.not_mem_nil) vk_en_0 hl hg hb (fun _ _ q => q) htm e e' L ⟨rfl, fun l hl => absurd hl (Nat.not_lt_zero _)⟩
  unfold rf_RP at h1 h2
  rw [h84] at h2
  exact rf_ty_inj h2 (rf_is_up h1 x1.1)
theorem vk_Q2 {b : Nat → Int} {n : Int} {C M : List (Int × qx_T)} {tl tr : px_N} {u t : sx_S} {NL NR : rf_N} {x2 z : Int} (h1 : vk_C1 b n C M [] [] tl u NL x2) (u40 : u.1 66 40 = 0) (h2 : vk_C1 b n C M [] [] tr t NR z) (tu : rf_tu u t) : (t.1 66 40 = 0 → ∃ y1 y2, (px_wt (px_SN b n) C M tl).1 [] y1 ∧ (px_wt (px_SN b n) C M tr).1 [] y2 ∧ qx_is t y1 x2 ∧ qx_is t y2 z ∧ (vk_lk (px_SN b n) C M NL tl).1 [] [] ∧ (vk_lk (px_SN b n) C M NR tr).1 [] []) ∧ (t.1 66 40 ≠ 0 → ¬ ∃ x, (px_wt (px_SN b n) C M tl).1 [] x ∧ (px_wt (px_SN b n) C M tr).1 [] x) := by
  refine ⟨fun e => ?_, fun e ⟨x, _, h⟩ => (h2 trivial).2 e x h⟩
  obtain ⟨y1, a1, a2, a3⟩ := (h1 trivial).1 u40
  obtain ⟨y2, b1, b2, b3⟩ := (h2 trivial).1 e
  exact ⟨y1, y2, a1, b1, qx_is_up a2 tu, b2, a3, b3⟩
end
