/-! ===== the reference: close, longVar ===== -/
theorem w_longVar {CALL : sx_Ca} {sL : Nat} {sx : Nat → Int32} {Q : Nat → sx_L → sx_S → Prop} {R : Int → sx_S → Prop} (h_make : ∀ (a0 a1 : Int) (s : sx_S) (K : Int → sx_S → Prop), cx_I s → (0 ≤ a0 ∧ a0 ≤ 3) → (-2147483648 ≤ a1 ∧ a1 ≤ 2147483647) → (s.1 66 50 ≤ 59999) → (∀ (z : Int) (t : sx_S), cx_I t → cx_F [(66, 66), (100, 103)] s t → (z = s.1 66 50) → (t.1 66 50 = s.1 66 50 + 1) → (rf_f [50] s t) → (rf_ag 100 103 (s.1 66 50) s t) → (rf_mk t z a0 a1) → K z t) → CALL 178 [.inr (.inl 66), .inl a0, .inl a1] s K) {s : sx_S} {v : Int} {PC : Int → sx_S → Prop} (hI : cx_I s) (q : 0 ≤ v ∧ v ≤ 399999) (h50 : s.1 66 50 ≤ 59999) (hC : ∀ (z1 u1 : Int) (t1 : sx_S), cx_I t1 → cx_F [(66, 66), (100, 103)] s t1 → z1 = s.1 66 50 → t1.1 66 50 = s.1 66 50 + 1 → rf_f [50] s t1 → rf_ag 100 103 (s.1 66 50) s t1 → rf_mk t1 z1 2 v → u1 = t1.2.1 106 v.toNat → ∀ K : Int → sx_S → Prop, (∀ z t, PC z t → K z t) → CALL 180 [.inr (.inl 66), .inl z1, .inl u1] t1 K) (hK : ∀ z t, PC z t → R z t) : sx_wp true sL sx eX12_longVar CALL [] Q R 400 0 (sx_argsF 0 [.inr (.inl 66), .inl v]) [] s := by
  repeat' (first | (with_reducible intro _) | (refine And.intro ?_ ?_) | (refine hK _ _ ?_) | (refine hC _ _ _ (by assumption) (by assumption) (by assumption) (by assumption) (by assumption) (by assumption) (by assumption) ?_ _ ?_) | (refine h_make _ _ _ _ ?_ ?_ ?_ ?_ ?_))
  all_goals (try dsimp only)
  all_goals (first | trivial | assumption | omega | (dsimp only at *; omega))
theorem rf_lv {sL : Nat} {sx : Nat → Int32} (hsL : sL ≤ 3072) {N d : Nat} (hd : 1 ≤ d) (hc : ∀ (x : rf_T) (x1 a1 : Int) (k : Int × Int) (f0 : rf_N) (s : sx_S) (K : Int → sx_S → Prop), rf_at x ≤ N → cx_I s → (0 ≤ x1 ∧ x1 ≤ 59999) → rf_is s x a1 → rf_at x ≤ 5 → (2 ≤ s.1 66 9 ∧ s.1 66 9 ≤ 6000) → s.1 66 50 + 2 * (rf_at x : Int) ≤ 59999 → s.1 66 58 + (rf_at x : Int) ≤ 399999 → s.1 66 56 + 5 ≤ 119990 → rf_no s (.inner x1.toNat k () f0 .leaf) x1 → (rf_idx (.inner x1.toNat k () f0 .leaf)).Nodup → (∀ j ∈ rf_idx (.inner x1.toNat k () f0 .leaf), x1 ≤ (j : Int)) → (((k.1 = 1 ∨ k.1 = 2) ∧ ∃ w, rf_H s x1.toNat k.1 k.2 w ∧ (rf_gt (rf_H s) rf_P f0).2 w x) ∨ (k.1 = 3 ∧ f0 = .leaf ∧ rf_mp s x1.toNat k.2 x (s.1 66 56))) → (∀ (z : Int) (t : sx_S), cx_I t → cx_F [(66, 66), (100, 103), (105, 106)] s t → rf_f [50, 56, 58] s t → rf_xu s t → rf_ag 100 103 x1 s t → (t.1 66 50 + 2 ≤ s.1 66 50 + 2 * (rf_at x : Int) ∧ t.1 66 58 + 1 ≤ s.1 66 58 + (rf_at x : Int) ∧ t.1 66 56 + 1 ≤ s.1 66 56 + (rf_at x : Int) ∧ (k.1 ≠ 3 → t.1 66 56 = s.1 66 56)) → rf_made x1 x t z (rf_PC (s.1 66 58) k f0 x (rf_rv s x1) x1 t) → K z t) → sx_C sL sx (d + 1) 180 [.inr (.inl 66), .inl x1, .inl a1] s K) : ∀ (A : rf_T) (v : Int) (s : sx_S) (K : Int → sx_S → Prop), rf_at A ≤ N → cx_I s → rf_vt s v A → rf_at A ≤ 5 → (2 ≤ s.1 66 9 ∧ s.1 66 9 ≤ 6000) → s.1 66 50 + 2 * (rf_at A : Int) ≤ 59998 → s.1 66 58 + (rf_at A : Int) ≤ 399999 → s.1 66 56 + 5 ≤ 119990 → (∀ (z : Int) (t : sx_S), cx_I t → cx_F [(66, 66), (100, 103), (105, 106)] s t → rf_f [50, 56, 58] s t → rf_xu s t → rf_ag 100 103 (s.1 66 50) s t → (t.1 66 50 + 1 ≤ s.1 66 50 + 2 * (rf_at A : Int) ∧ t.1 66 58 + 1 ≤ s.1 66 58 + (rf_at A : Int) ∧ t.1 66 56 = s.1 66 56) → rf_made (s.1 66 50) A t z (fun n => (rf_wh n).1 + 1 ≤ 2 * rf_at A ∧ (∀ m, ¬ (rf_oc n).1 m) ∧ rf_lf n v ∧ (rf_sc rf_G0 n).1 [v]) → K z t) → sx_C sL sx (d + 2) 181 [.inr (.inl 66), .inl v] s K := by
  intro A v s K hN hI hv h5 h9 h50 h58 h56 hK
  have hA := rf_at_pos A
  have r50 := hI.fld 66 50 (by decide) rfl
  have r58 := hI.fld 66 58 (by decide) rfl
  refine sx_meth (wr := true) (n := 400) hsL (e := eX12_longVar) rfl (w_longVar (Q := fun _ _ _ => False) (PC := K) (c_r_make hsL (d + 1) (by omega)) hI ⟨hv.1.1, by have := hv.1.2; omega⟩ (by omega) ?_ (fun _ _ h => h))
  intro z1 u1 t1 m1 m2 m3 m4 m5 m6 m7 hu K' hK'
  have hx := rf_xu_make m2 m5 m4
  obtain ⟨g1, g2, g3, g4⟩ := m7 trivial
  have hvt := rf_vt_up hx hv
  have e9 := m5 9 rfl
  have e58 := m5 58 rfl
  have e56 := m5 56 rfl
  refine hc A z1 u1 (2, v) .leaf t1 K' hN m1 (by omega) (by rw [hu]; exact hvt.2) h5 (by omega) (by omega) (by omega) (by omega) ⟨⟨by omega, by omega⟩, ⟨g1, g2⟩, g3, g4⟩ (by simp [rf_idx]) (fun j hj => by simp [rf_idx] at hj; omega) (Or.inl ⟨Or.inr rfl, A, Or.inr (Or.inr (Or.inl ⟨rfl, hvt⟩)), rfl⟩) (fun z t p1 p2 p3 p4 p5 p6 p7 => hK' z t (hK z t p1 (cx_F_step p2 rfl (cx_F_step m2 rfl (cx_F_refl _ _))) (rf_f_step p3 rfl (rf_f_step m5 rfl (rf_f_refl _ _))) (rf_xu_trans p4 hx) (rf_ag_trans p5 (by omega) m6) ?_ ?_))
  · have := p6.2.2.2 (by show (2 : Int) ≠ 3; decide)
    omega
  · obtain ⟨n, n1, n2, n3, n4, n5, ⟨nlf, nsc, _⟩, n6, n7⟩ := p7
    have hlf := (nlf [] v (fun _ => hvt.1.2)).mpr ⟨rfl, rfl, List.not_mem_nil, rfl⟩
    have hsc := nsc rf_G0 [v] (fun _ _ _ _ _ q => q.elim) (fun _ => List.mem_cons_self) (fun q => absurd (show (2 : Int) = 3 from q) (by decide)) trivial
    have hw := n6.1 (by show (2 : Int) ≠ 3; decide)
    refine ⟨n, n1, n2, fun j hj => by have := n3 j hj; omega, n4, n5, hw, fun m hm => ?_, hlf, hsc⟩
    rcases (n7 m).mp hm with ⟨q, _⟩ | ⟨_, q⟩
    · exact absurd (show (2 : Int) = 3 from q) (by decide)
    · exact q

theorem rf_nd_inj {K R F X : Nat → Int} {N N' : Int} : ∀ {a b : rf_N} {i : Int}, rf_nd K R F X N a i → rf_nd K R F X N' b i → a = b
  | .leaf, .leaf, _, _, _ => rfl
  | .leaf, .inner _ _ _ _ _, i, h, g => by
    have h' : i = -1 := h
    have := g.1.1
    omega
  | .inner _ _ _ _ _, .leaf, i, h, g => by
    have g' : i = -1 := g
    have := h.1.1
    omega
  | .inner j (k1, k2) _ f x, .inner j' (l1, l2) _ f' x', i, h, g => by
    obtain ⟨⟨h1, _⟩, ⟨h2, h3⟩, h4, h5⟩ := h
    obtain ⟨⟨g1, _⟩, ⟨g2, g3⟩, g4, g5⟩ := g
    have e : j = j' := by omega
    subst e
    have e1 : k1 = l1 := h2.symm.trans g2
    have e2 : k2 = l2 := h3.symm.trans g3
    rw [rf_nd_inj h4 g4, rf_nd_inj h5 g5, e1, e2]
theorem rf_J_bnd {x1 : Int} {k : Int × Int} {f0 : rf_N} {x : rf_T} {u : sx_S} {x3 x4 : Int} {y ye : rf_T} {i0 ib : Int} {pe vs : List Int} (h : rf_J x1 k f0 x u x3 x4 y ye i0 pe vs ib) : x1 < u.1 66 50 ∧ -1 ≤ x3 ∧ x3 < u.1 66 50 ∧ (x3 ≠ -1 → 0 ≤ x4 ∧ x4 < u.1 66 50 ∧ x1 ≤ x4) ∧ u.2.1 100 x1.toNat = k.1 ∧ (∀ t : sx_S, rf_ag 100 103 (u.1 66 50) u t → u.1 66 50 ≤ t.1 66 50 → ∀ j : Nat, u.1 66 50 ≤ (j : Int) → (∀ f, rf_no t (.inner x1.toNat k () f .leaf) x1 → j ∉ rf_idx (.inner x1.toNat k () f .leaf)) ∧ (∀ C : List (Nat × Int), x3 ≠ -1 → rf_no t (rf_ch C .leaf) x3 → j ∉ C.map Prod.fst)) := by
  obtain ⟨C, f, a1, a2, a3, a4, a5, a6, a7, a8, a9, a10⟩ := h
  have hlt := rf_nd_lt a1 x1.toNat List.mem_cons_self
  have e0 := a1.1.1
  have ek := a1.2.1.1
  have hb : -1 ≤ x3 ∧ x3 < u.1 66 50 := by
    rcases a4 with ⟨_, q⟩ | ⟨_, q, _⟩
    · omega
    · have := rf_nd_rng q
      omega
  refine ⟨by omega, hb.1, hb.2, fun h3 => ?_, ek, fun t ha hn j hj => ⟨fun f' hf' hm => ?_, fun C' h3 hC' hm => ?_⟩⟩
  · rcases a4 with ⟨_, q⟩ | ⟨c1, _, c3⟩
    · exact absurd q h3
    · have := (a6 _ (rf_cl_mem (d := 0) c1)).2
      omega
  · have e := rf_nd_inj hf' (rf_no_up ha hn a1)
    rw [e] at hm
    have := rf_nd_lt a1 j hm
    omega
  · rcases a4 with ⟨_, q⟩ | ⟨c1, c2, c3⟩
    · exact absurd q h3
    · have e := rf_nd_inj hC' (rf_no_up ha hn c2)
      have hm2 : j ∈ rf_idx (rf_ch C' .leaf) := rf_ch_idx.mpr (Or.inl hm)
      rw [e] at hm2
      have := rf_nd_lt c2 j hm2
      omega
theorem rf_cl_ok {sL : Nat} {sx : Nat → Int32} (hsL : sL ≤ 3072) {N d : Nat} (hd : 1 ≤ d) (hlv : ∀ (A : rf_T) (v : Int) (s : sx_S) (K : Int → sx_S → Prop), rf_at A ≤ N → cx_I s → rf_vt s v A → rf_at A ≤ 5 → (2 ≤ s.1 66 9 ∧ s.1 66 9 ≤ 6000) → s.1 66 50 + 2 * (rf_at A : Int) ≤ 59998 → s.1 66 58 + (rf_at A : Int) ≤ 399999 → s.1 66 56 + 5 ≤ 119990 → (∀ (z : Int) (t : sx_S), cx_I t → cx_F [(66, 66), (100, 103), (105, 106)] s t → rf_f [50, 56, 58] s t → rf_xu s t → rf_ag 100 103 (s.1 66 50) s t → (t.1 66 50 + 1 ≤ s.1 66 50 + 2 * (rf_at A : Int) ∧ t.1 66 58 + 1 ≤ s.1 66 58 + (rf_at A : Int) ∧ t.1 66 56 = s.1 66 56) → rf_made (s.1 66 50) A t z (fun n => (rf_wh n).1 + 1 ≤ 2 * rf_at A ∧ (∀ m, ¬ (rf_oc n).1 m) ∧ rf_lf n v ∧ (rf_sc rf_G0 n).1 [v]) → K z t) → sx_C sL sx (d + 1) 181 [.inr (.inl 66), .inl v] s K) : ∀ (x : rf_T) (x1 a1 : Int) (k : Int × Int) (f0 : rf_N) (s : sx_S) (K : Int → sx_S → Prop), rf_at x ≤ (N + 1) → cx_I s → (0 ≤ x1 ∧ x1 ≤ 59999) → rf_is s x a1 → rf_at x ≤ 5 → (2 ≤ s.1 66 9 ∧ s.1 66 9 ≤ 6000) → s.1 66 50 + 2 * (rf_at x : Int) ≤ 59999 → s.1 66 58 + (rf_at x : Int) ≤ 399999 → s.1 66 56 + 5 ≤ 119990 → rf_no s (.inner x1.toNat k () f0 .leaf) x1 → (rf_idx (.inner x1.toNat k () f0 .leaf)).Nodup → (∀ j ∈ rf_idx (.inner x1.toNat k () f0 .leaf), x1 ≤ (j : Int)) → (((k.1 = 1 ∨ k.1 = 2) ∧ ∃ w, rf_H s x1.toNat k.1 k.2 w ∧ (rf_gt (rf_H s) rf_P f0).2 w x) ∨ (k.1 = 3 ∧ f0 = .leaf ∧ rf_mp s x1.toNat k.2 x (s.1 66 56))) → (∀ (z : Int) (t : sx_S), cx_I t → cx_F [(66, 66), (100, 103), (105, 106)] s t → rf_f [50, 56, 58] s t → rf_xu s t → rf_ag 100 103 x1 s t → (t.1 66 50 + 2 ≤ s.1 66 50 + 2 * (rf_at x : Int) ∧ t.1 66 58 + 1 ≤ s.1 66 58 + (rf_at x : Int) ∧ t.1 66 56 + 1 ≤ s.1 66 56 + (rf_at x : Int) ∧ (k.1 ≠ 3 → t.1 66 56 = s.1 66 56)) → rf_made x1 x t z (rf_PC (s.1 66 58) k f0 x (rf_rv s x1) x1 t) → K z t) → sx_C sL sx (d + 2) 180 [.inr (.inl 66), .inl x1, .inl a1] s K := by
  intro x x1 a1 k f0 s K hN hI p1 hx h5 h9 h50 h58 h56 hno hnd hlo hty hK
  have hx0 := rf_at_pos x
  refine sx_methL (wr := true) (n := 400) (n' := 400) (stop := [(8, [0, 1, 3, 4, 5]), (60, [0, 1, 3, 4, 5, 6]), (105, [0, 1, 3, 4, 5])]) (fun n pc ls u => (pc = 8 ∧ ∃ (x3 x4 x5 : Int) (y : rf_T), ls = [(0, .inr (.inl 66)), (1, .inl x1), (3, .inl x3), (4, .inl x4), (5, .inl x5)] ∧ (cx_I u ∧ cx_F [(66, 66), (100, 103), (105, 106)] s u ∧ rf_f [50, 56, 58] s u ∧ rf_xu s u ∧ rf_ag 100 103 x1 s u) ∧ rf_is u y x5 ∧ (u.1 66 50 + 2 * (rf_at y : Int) ≤ s.1 66 50 + 2 * (rf_at x : Int) ∧ u.1 66 58 + (rf_at y : Int) ≤ s.1 66 58 + (rf_at x : Int) ∧ u.1 66 56 + (rf_at y : Int) ≤ s.1 66 56 + (rf_at x : Int) ∧ (k.1 ≠ 3 → u.1 66 56 = s.1 66 56)) ∧ rf_J x1 k f0 x u x3 x4 y y (s.1 66 58) [] (rf_rv s x1) (u.1 66 58) ∧ n = 10 * rf_at y + 5) ∨ (pc = 60 ∧ ∃ (x3 x4 x5 x6 : Int) (A B : rf_T), ls = [(0, .inr (.inl 66)), (1, .inl x1), (3, .inl x3), (4, .inl x4), (5, .inl x5), (6, .inl x6)] ∧ (cx_I u ∧ cx_F [(66, 66), (100, 103), (105, 106)] s u ∧ rf_f [50, 56, 58] s u ∧ rf_xu s u ∧ rf_ag 100 103 x1 s u) ∧ rf_is u (rf_a A B) x5 ∧ (u.1 66 50 + 2 * (rf_at A : Int) + 2 * (rf_at B : Int) ≤ s.1 66 50 + 2 * (rf_at x : Int) + 1 ∧ u.1 66 58 + (rf_at A : Int) + (rf_at B : Int) ≤ s.1 66 58 + (rf_at x : Int) + 1 ∧ u.1 66 56 + (rf_at A : Int) + (rf_at B : Int) ≤ s.1 66 56 + (rf_at x : Int) ∧ (k.1 ≠ 3 → u.1 66 56 = s.1 66 56)) ∧ rf_J x1 k f0 x u x3 x4 B (rf_a A B) (s.1 66 58) [x6] (rf_rv s x1) (u.1 66 58) ∧ x3 ≠ -1 ∧ rf_vt u x6 A ∧ n = 10 * (rf_at A + rf_at B) + 3) ∨ (pc = 105 ∧ ∃ (x3 x4 x5 : Int) (A B : rf_T), ls = [(0, .inr (.inl 66)), (1, .inl x1), (3, .inl x3), (4, .inl x4), (5, .inl x5)] ∧ (cx_I u ∧ cx_F [(66, 66), (100, 103), (105, 106)] s u ∧ rf_f [50, 56, 58] s u ∧ rf_xu s u ∧ rf_ag 100 103 x1 s u) ∧ rf_is u (rf_a A B) x5 ∧ (u.1 66 50 + 2 * (rf_at B : Int) ≤ s.1 66 50 + 2 * (rf_at x : Int) ∧ u.1 66 58 + (rf_at B : Int) ≤ s.1 66 58 + (rf_at x : Int) ∧ u.1 66 56 + (rf_at B : Int) ≤ s.1 66 56 + (rf_at x : Int) ∧ (k.1 ≠ 3 → u.1 66 56 = s.1 66 56)) ∧ rf_J x1 k f0 x u x3 x4 B B (s.1 66 58) [] (rf_rv s x1) (u.1 66 58) ∧ n = 10 * (rf_at A + rf_at B) + 1)) hsL (e := eX12_close) rfl ?_ ?_
  · refine w_close hI ⟨_, Or.inl ⟨rfl, -1, -1, a1, x, rfl, ⟨hI, cx_F_refl _ _, rf_f_refl _ _, rf_xu_refl _, rf_ag_refl _ _ _ _⟩, hx, ⟨by omega, by omega, by omega, fun _ => rfl⟩, ⟨[], f0, hno, hnd, hlo, Or.inl ⟨rfl, rfl⟩, List.nodup_nil, fun j hj => absurd hj List.not_mem_nil, rfl, hty, ⟨by simp only [List.length_nil]; omega, by simp only [List.length_nil]; omega⟩, fun _ => Iff.rfl, ⟨fun _ => ⟨[], .leaf, rfl, (rf_snoc_leaf f0).symm, rfl, trivial⟩, fun c hc => absurd hc List.not_mem_nil, List.nodup_nil, fun _ => rfl⟩⟩, rfl⟩⟩
  · rintro n pc ls u (⟨rfl, x3, x4, x5, y, rfl, ⟨g1, g2, g3, g4, g5⟩, hy, hc, hJ, rfl⟩ | ⟨rfl, x3, x4, x5, x6, A, B, rfl, ⟨g1, g2, g3, g4, g5⟩, hy, hc, hJ, h3, hv, rfl⟩ | ⟨rfl, x3, x4, x5, A, B, rfl, ⟨g1, g2, g3, g4, g5⟩, hy, hc, hJ, rfl⟩)
    · have e9 := g3 9 rfl
      have y0 := rf_ty_lo hy
      have y1 := rf_ty_hi (by omega) hy
      have hyp := rf_at_pos y
      obtain ⟨b1, b2, b3, b4, b5, b6⟩ := rf_J_bnd hJ
      have r50 := g1.fld 66 50 (by decide) rfl
      have r58 := g1.fld 66 58 (by decide) rfl
      refine w_close_8 (c_r_newVarF hsL (d + 1) (by omega)) (c_r_make hsL (d + 1) (by omega)) g1 p1 (by omega) (fun h => by have := b4 h; omega) ⟨y0, by omega⟩ (by omega) (by omega) ?_ ?_ ?_ ?_
      · intro q5 q3
        have ey : y = .leaf := rf_ty_b hy (by omega)
        subst ey q3
        have e1 : rf_at (.leaf : rf_T) = 1 := rfl
        rw [e1] at hc
        exact hK x1 u g1 g2 g3 g4 g5 ⟨by omega, by omega, by omega, hc.2.2.2⟩ (rf_J_end1 hJ)
      · intro q5 q3
        have ey : y = .leaf := rf_ty_b hy (by omega)
        subst ey
        have e1 : rf_at (.leaf : rf_T) = 1 := rfl
        rw [e1] at hc
        have q4 := b4 q3
        have hx3 : rf_xu u (u.1, sx_ua u.2.1 102 x4.toNat x1, u.2.2) := rf_xu_arr (s := u) rfl (fun q hq => sx_ua_ne (by rcases hq with rfl | rfl | rfl | rfl | rfl | rfl | rfl <;> decide))
        refine hK x3 _ (cx_I_ua rfl rfl (F := u.1) (A := u.2.1) (B := u.2.2) g1 (by omega) (by omega)) (cx_F_ua rfl (F := u.1) (A := u.2.1) (B := u.2.2) g2) g3 (rf_xu_trans hx3 g4) (rf_ag_ua (F := u.1) (A := u.2.1) (B := u.2.2) q4.2.2 q4.1 g5) ⟨by dsimp only; omega, by dsimp only; omega, by dsimp only; omega, hc.2.2.2⟩ (rf_J_end2 hJ q3 p1.1)
      · intro q5 q3 z6 z7 t1 t2 m1 m2 m3 m4 m5 m6 m7 n1 n2 n3 n4 n5 n6 n7 n8
        obtain ⟨A, B, ey, hA, hB⟩ := rf_ty_a hy (by omega)
        subst ey q3
        have hx1 := rf_xu_new n1 n5 n4 n6
        have hx2 := rf_xu_make m1 m5 m4
        have pA := rf_at_pos A
        have pB := rf_at_pos B
        have eAB : rf_at (rf_a A B) = rf_at A + rf_at B := rfl
        rw [eAB] at hc
        have e56 : t1.1 66 56 = u.1 66 56 := n5 56 rfl
        have e56' : t2.1 66 56 = t1.1 66 56 := m5 56 rfl
        have e58' : t2.1 66 58 = t1.1 66 58 := m5 58 rfl
        have ag1 : rf_ag 100 103 (u.1 66 50) u t1 := rf_ag_F n1 rfl (rf_ag_refl _ _ _ _)
        have ag2 : rf_ag 100 103 (u.1 66 50) u t2 := rf_ag_trans m6 (by omega) ag1
        have hJ2 := rf_J_up (rf_J_up hJ ag1 hx1 e56) (by rw [n7] at m6 ⊢; exact m6) hx2 e56'
        have hvt : rf_vt t2 z6 A := rf_vt_up hx2 ⟨⟨by omega, by omega⟩, by rw [n8]; exact rf_is_up hA hx1.1⟩
        refine ⟨_, ?_, Or.inr (Or.inl ⟨rfl, z7, z7, x5, z6, A, B, rfl, ⟨m2, cx_F_step m1 rfl (cx_F_step n1 rfl g2), rf_f_step m5 rfl (rf_f_step n5 rfl g3), rf_xu_trans hx2 (rf_xu_trans hx1 g4), rf_ag_trans ag2 (by omega) g5⟩, rf_is_up (rf_is_up hy hx1.1) hx2.1, ⟨by omega, by omega, by omega, fun q => by have := hc.2.2.2 q; omega⟩, rf_J_ib (rf_J_lam1 hJ2 (by have := (g4.2 0).1.1; omega) (by omega) ⟨by omega, by omega⟩ m7 hvt (by omega) (fun f hf => (b6 t2 ag2 (by omega) z7.toNat (by omega)).1 f hf)) (by omega), by omega, hvt, rfl⟩)⟩
        omega
      · intro q5 q3 z6 z7 t1 t2 m1 m2 m3 m4 m5 m6 m7 n1 n2 n3 n4 n5 n6 n7 n8
        obtain ⟨A, B, ey, hA, hB⟩ := rf_ty_a hy (by omega)
        subst ey
        have q4 := b4 q3
        have hx1 := rf_xu_new n1 n5 n4 n6
        have hx2 := rf_xu_make m1 m5 m4
        have pA := rf_at_pos A
        have pB := rf_at_pos B
        have eAB : rf_at (rf_a A B) = rf_at A + rf_at B := rfl
        rw [eAB] at hc
        have e56 : t1.1 66 56 = u.1 66 56 := n5 56 rfl
        have e56' : t2.1 66 56 = t1.1 66 56 := m5 56 rfl
        have e58' : t2.1 66 58 = t1.1 66 58 := m5 58 rfl
        have ag1 : rf_ag 100 103 (u.1 66 50) u t1 := rf_ag_F n1 rfl (rf_ag_refl _ _ _ _)
        have ag2 : rf_ag 100 103 (u.1 66 50) u t2 := rf_ag_trans m6 (by omega) ag1
        have hJ2 := rf_J_up (rf_J_up hJ ag1 hx1 e56) (by rw [n7] at m6 ⊢; exact m6) hx2 e56'
        have hvt : rf_vt t2 z6 A := rf_vt_up hx2 ⟨⟨by omega, by omega⟩, by rw [n8]; exact rf_is_up hA hx1.1⟩
        have hx3 : rf_xu t2 (t2.1, sx_ua t2.2.1 102 x4.toNat z7, t2.2.2) := rf_xu_arr rfl (fun q hq => sx_ua_ne (by rcases hq with rfl | rfl | rfl | rfl | rfl | rfl | rfl <;> decide))
        have fr := b6 t2 ag2 (by omega) z7.toNat (by omega)
        refine ⟨_, ?_, Or.inr (Or.inl ⟨rfl, x3, z7, x5, z6, A, B, rfl, ⟨cx_I_ua rfl rfl (F := t2.1) (A := t2.2.1) (B := t2.2.2) m2 (by omega) (by omega), cx_F_ua rfl (F := t2.1) (A := t2.2.1) (B := t2.2.2) (cx_F_step m1 rfl (cx_F_step n1 rfl g2)), rf_f_step m5 rfl (rf_f_step n5 rfl g3), rf_xu_trans hx3 (rf_xu_trans hx2 (rf_xu_trans hx1 g4)), rf_ag_ua (F := t2.1) (A := t2.2.1) (B := t2.2.2) q4.2.2 q4.1 (rf_ag_trans ag2 (by omega) g5)⟩, rf_is_up (rf_is_up (rf_is_up hy hx1.1) hx2.1) hx3.1, ⟨by dsimp only; omega, by dsimp only; omega, by dsimp only; omega, fun q => by have := hc.2.2.2 q; dsimp only; omega⟩, rf_J_ib (rf_J_lam2 hJ2 (by have := (g4.2 0).1.1; omega) (by omega) q3 ⟨by omega, by omega⟩ m7 hvt (by omega) (fun _ _ _ _ => Or.inr trivial) (fun f hf => fr.1 f hf) (fun C hC => fr.2 C q3 hC) hx3) (by dsimp only; omega), q3, rf_vt_up hx3 hvt, rfl⟩)⟩
        omega
    · have e9 := g3 9 rfl
      have pA := rf_at_pos A
      have pB := rf_at_pos B
      obtain ⟨b1, b2, b3, b4, b5, b6⟩ := rf_J_bnd hJ
      have r50 := g1.fld 66 50 (by decide) rfl
      have r56 := g1.fld 66 56 (by decide) rfl
      have r58 := g1.fld 66 58 (by decide) rfl
      have hAt : rf_at A ≤ N ∧ rf_at A ≤ 5 := by
        obtain ⟨C, f, _, _, _, a4, _, _, _, _, a9, _⟩ := hJ
        have eAB : rf_at (rf_a A B) = rf_at A + rf_at B := rfl
        rw [eAB] at a9
        have hC1 : 1 ≤ C.length := by
          rcases a4 with ⟨_, z⟩ | ⟨z, _⟩
          · exact absurd z h3
          · cases C with
            | nil => exact absurd rfl z
            | cons c l => exact Nat.succ_pos _
        omega
      have hxx := rf_at_pos x
      refine w_close_60 (PL := fun p t => cx_I t ∧ cx_F [(66, 66), (100, 103), (105, 106)] u t ∧ rf_f [50, 56, 58] u t ∧ rf_xu u t ∧ rf_ag 100 103 (u.1 66 50) u t ∧ (t.1 66 50 + 1 ≤ u.1 66 50 + 2 * (rf_at A : Int) ∧ t.1 66 58 + 1 ≤ u.1 66 58 + (rf_at A : Int) ∧ t.1 66 56 = u.1 66 56) ∧ rf_made (u.1 66 50) A t p (fun n => (rf_wh n).1 + 1 ≤ 2 * rf_at A ∧ (∀ m, ¬ (rf_oc n).1 m) ∧ rf_lf n x6 ∧ (rf_sc rf_G0 n).1 [x6]) ∧ k.1 ≠ 3) (PA := fun t => (cx_I t ∧ cx_F [(66, 66), (100, 103), (105, 106)] s t ∧ rf_f [50, 56, 58] s t ∧ rf_xu s t ∧ rf_ag 100 103 x1 s t) ∧ rf_is t (rf_a A B) x5 ∧ (t.1 66 50 + 2 * (rf_at B : Int) ≤ s.1 66 50 + 2 * (rf_at x : Int) ∧ t.1 66 58 + (rf_at B : Int) ≤ s.1 66 58 + (rf_at x : Int) ∧ t.1 66 56 + (rf_at B : Int) ≤ s.1 66 56 + (rf_at x : Int) ∧ (k.1 ≠ 3 → t.1 66 56 = s.1 66 56)) ∧ rf_J x1 k f0 x t x3 x4 B B (s.1 66 58) [] (rf_rv s x1) (t.1 66 58)) g1 p1 ⟨hv.1.1, by have := hv.1.2; omega⟩ (by omega) ?_ ?_ ?_ ?_
      · intro hk w n hw hn
        rw [b5] at hk
        have hxv := rf_xu_var (B := u.2.2) (v := x6) hw hn (by omega)
        have e50 : sx_uf u.1 66 56 w 66 50 = u.1 66 50 := by
          rw [sx_uf_if]
          exact if_neg (fun c => by cases c.2)
        have e58 : sx_uf u.1 66 56 w 66 58 = u.1 66 58 := by
          rw [sx_uf_if]
          exact if_neg (fun c => by cases c.2)
        have e56 : sx_uf u.1 66 56 w 66 56 = w := by
          rw [sx_uf_if]
          exact if_pos ⟨rfl, rfl⟩
        have hx6 := hv.1
        refine ⟨_, ?_, Or.inr (Or.inr ⟨rfl, x3, x4, x5, A, B, rfl, ⟨cx_I_uf rfl rfl (cx_I_ua rfl rfl (F := u.1) (A := u.2.1) (B := u.2.2) g1 (by omega) (by omega)) (by omega) (by omega), cx_F_uf rfl (cx_F_ua rfl (F := u.1) (A := u.2.1) (B := u.2.2) g2), rf_f_uf rfl (rf_f_ua (F := u.1) (A := u.2.1) (B := u.2.2) g3), rf_xu_trans hxv g4, rf_ag_uf (rf_ag_uo rfl (F := u.1) (A := u.2.1) (B := u.2.2) g5)⟩, rf_is_up hy hxv.1, ⟨by dsimp only; rw [e50]; omega, by dsimp only; rw [e58]; omega, by dsimp only; rw [e56]; omega, fun q => absurd hk q⟩, rf_J_ib (rf_J_met hJ hk hw hn (by omega) hv) (by dsimp only; rw [e58]; exact Int.le_refl _), rfl⟩)⟩
        omega
      · intro hk K' hK'
        rw [b5] at hk
        have hc4 := hc.2.2.2 hk
        refine hlv A x6 u K' hAt.1 g1 hv hAt.2 (by omega) (by omega) (by omega) (by omega) (fun z t q1 q2 q3 q4 q5 q6 q7 => hK' z t ⟨q1, q2, q3, q4, q5, q6, q7, hk⟩)
      · rintro p t ⟨q1, q2, q3, q4, q5, q6, ⟨nn, n1, n2, n3, n4, n5, n6, n7, n8⟩, hk⟩ K' hK'
        have hJ' := hJ
        obtain ⟨C, f, a1, a2, a3, a4, a5, a6, a7, a8, a9, a10⟩ := hJ'
        have hnn := (q4.2 0).1.2.2.1
        have b1' := rf_no_up q5 hnn a1
        have hp := rf_nd_rng n1
        have hp1 : p ≠ -1 := fun e => by
          have := rf_nd_nil n1 e
          subst this
          exact n5.elim
        have rt50 := q1.fld 66 50 (by decide) rfl
        have fin : ∀ t' : sx_S, t'.1 = t.1 → ((f = .leaf ∧ t'.2.1 = sx_ua t.2.1 102 x1.toNat p) ∨ (f ≠ .leaf ∧ t'.2.1 = sx_ua t.2.1 103 (rf_last f 0) p)) → rf_J x1 k f0 x t' x3 x4 B B (s.1 66 58) [] (rf_rv s x1) (t'.1 66 58) := fun t' e1 e2 => rf_J_ib (rf_J_app hJ n8.1 n8.2 h3 hk q5 q4 n1 n2 n3 n4 n5 n6 n7 e1 (fun f' hf' => by
          have e := rf_nd_inj hf' b1'
          injection e with _ _ _ ef _
          subst ef
          exact e2)) (by rw [e1]; exact (q4.2 0).1.1)
        have hc4 := hc.2.2.2 hk
        have hxa : ∀ p' l' : Nat, (p' = 102 ∨ p' = 103) → rf_xu t (t.1, sx_ua t.2.1 p' l' p, t.2.2) := fun p' l' hp' => rf_xu_arr (s := t) rfl (fun q hq => sx_ua_ne (by omega))
        have fls : ∀ j ∈ rf_idx f, x1 ≤ (j : Int) := fun j hj => a3 j (List.mem_cons_of_mem _ (List.mem_append_left _ hj))
        refine c_r_append hsL (d + 1) (by omega) x1 p f t K' q1 p1 (by omega) b1'.2.2.1 (fun hl => hK' _ _ ⟨⟨cx_I_ua rfl rfl (F := t.1) (A := t.2.1) (B := t.2.2) q1 (by omega) (by omega), cx_F_ua rfl (F := t.1) (A := t.2.1) (B := t.2.2) (cx_F_step q2 rfl g2), rf_f_step q3 rfl g3, ?_, rf_ag_ua (F := t.1) (A := t.2.1) (B := t.2.2) (Int.le_refl _) p1.1 (rf_ag_trans q5 (by omega) g5)⟩, ?_, ⟨by dsimp only; omega, by dsimp only; omega, by dsimp only; omega, fun _ => by dsimp only; omega⟩, fin _ rfl (Or.inl ⟨hl, rfl⟩)⟩) (fun l hl el => hK' _ _ ⟨⟨cx_I_ua rfl rfl (F := t.1) (A := t.2.1) (B := t.2.2) q1 (by omega) (by omega), cx_F_ua rfl (F := t.1) (A := t.2.1) (B := t.2.2) (cx_F_step q2 rfl g2), rf_f_step q3 rfl g3, ?_, ?_⟩, ?_, ⟨by dsimp only; omega, by dsimp only; omega, by dsimp only; omega, fun _ => by dsimp only; omega⟩, fin _ rfl (Or.inr ⟨hl, by rw [el]⟩)⟩)
        · exact rf_xu_trans (hxa 102 x1.toNat (Or.inl rfl)) (rf_xu_trans q4 g4)
        · exact rf_is_up (rf_is_up hy q4.1) (hxa 102 x1.toNat (Or.inl rfl)).1
        · exact rf_xu_trans (hxa 103 l (Or.inr rfl)) (rf_xu_trans q4 g4)
        · have hlm := fls l (by rw [el]; exact rf_last_mem f 0 hl)
          have hq := rf_ag_ua (p := 103) (k := (l : Int)) (v := p) (F := t.1) (A := t.2.1) (B := t.2.2) hlm (by omega) (rf_ag_trans q5 (by omega) g5)
          exact hq
        · exact rf_is_up (rf_is_up hy q4.1) (hxa 103 l (Or.inr rfl)).1
      · rintro t' ⟨f1, f2, f3, f4⟩
        refine ⟨_, ?_, Or.inr (Or.inr ⟨rfl, x3, x4, x5, A, B, rfl, f1, f2, f3, f4, rfl⟩)⟩
        omega
    · have e9 := g3 9 rfl
      have y0 := rf_ty_lo hy
      have y1 := rf_ty_hi (by omega) hy
      refine w_close_105 g1 ⟨y0, by omega⟩ (fun v hv => ⟨_, ?_, Or.inl ⟨rfl, x3, x4, v, B, rfl, ⟨g1, g2, g3, g4, g5⟩, ?_, hc, hJ, rfl⟩⟩)
      · have := rf_at_pos A
        omega
      · rw [hv]
        exact hy.2.2

theorem c_r_clv {sL : Nat} {sx : Nat → Int32} (hsL : sL ≤ 3072) : ∀ N d : Nat, 2 * N + 4 ≤ d → (∀ (x : rf_T) (x1 a1 : Int) (k : Int × Int) (f0 : rf_N) (s : sx_S) (K : Int → sx_S → Prop), rf_at x ≤ N → cx_I s → (0 ≤ x1 ∧ x1 ≤ 59999) → rf_is s x a1 → rf_at x ≤ 5 → (2 ≤ s.1 66 9 ∧ s.1 66 9 ≤ 6000) → s.1 66 50 + 2 * (rf_at x : Int) ≤ 59999 → s.1 66 58 + (rf_at x : Int) ≤ 399999 → s.1 66 56 + 5 ≤ 119990 → rf_no s (.inner x1.toNat k () f0 .leaf) x1 → (rf_idx (.inner x1.toNat k () f0 .leaf)).Nodup → (∀ j ∈ rf_idx (.inner x1.toNat k () f0 .leaf), x1 ≤ (j : Int)) → (((k.1 = 1 ∨ k.1 = 2) ∧ ∃ w, rf_H s x1.toNat k.1 k.2 w ∧ (rf_gt (rf_H s) rf_P f0).2 w x) ∨ (k.1 = 3 ∧ f0 = .leaf ∧ rf_mp s x1.toNat k.2 x (s.1 66 56))) → (∀ (z : Int) (t : sx_S), cx_I t → cx_F [(66, 66), (100, 103), (105, 106)] s t → rf_f [50, 56, 58] s t → rf_xu s t → rf_ag 100 103 x1 s t → (t.1 66 50 + 2 ≤ s.1 66 50 + 2 * (rf_at x : Int) ∧ t.1 66 58 + 1 ≤ s.1 66 58 + (rf_at x : Int) ∧ t.1 66 56 + 1 ≤ s.1 66 56 + (rf_at x : Int) ∧ (k.1 ≠ 3 → t.1 66 56 = s.1 66 56)) → rf_made x1 x t z (rf_PC (s.1 66 58) k f0 x (rf_rv s x1) x1 t) → K z t) → sx_C sL sx d 180 [.inr (.inl 66), .inl x1, .inl a1] s K) ∧ (∀ (A : rf_T) (v : Int) (s : sx_S) (K : Int → sx_S → Prop), rf_at A ≤ N → cx_I s → rf_vt s v A → rf_at A ≤ 5 → (2 ≤ s.1 66 9 ∧ s.1 66 9 ≤ 6000) → s.1 66 50 + 2 * (rf_at A : Int) ≤ 59998 → s.1 66 58 + (rf_at A : Int) ≤ 399999 → s.1 66 56 + 5 ≤ 119990 → (∀ (z : Int) (t : sx_S), cx_I t → cx_F [(66, 66), (100, 103), (105, 106)] s t → rf_f [50, 56, 58] s t → rf_xu s t → rf_ag 100 103 (s.1 66 50) s t → (t.1 66 50 + 1 ≤ s.1 66 50 + 2 * (rf_at A : Int) ∧ t.1 66 58 + 1 ≤ s.1 66 58 + (rf_at A : Int) ∧ t.1 66 56 = s.1 66 56) → rf_made (s.1 66 50) A t z (fun n => (rf_wh n).1 + 1 ≤ 2 * rf_at A ∧ (∀ m, ¬ (rf_oc n).1 m) ∧ rf_lf n v ∧ (rf_sc rf_G0 n).1 [v]) → K z t) → sx_C sL sx (d + 1) 181 [.inr (.inl 66), .inl v] s K) := by
  intro N
  induction N with
  | zero =>
    intro d hd
    refine ⟨fun x x1 a1 k f0 s K hN => ?_, fun A v s K hN => ?_⟩
    · have := rf_at_pos x
      omega
    · have := rf_at_pos A
      omega
  | succ N ih =>
    intro d hd
    have key : ∀ e, 2 * (N + 1) + 4 ≤ e → ∀ (x : rf_T) (x1 a1 : Int) (k : Int × Int) (f0 : rf_N) (s : sx_S) (K : Int → sx_S → Prop), rf_at x ≤ (N + 1) → cx_I s → (0 ≤ x1 ∧ x1 ≤ 59999) → rf_is s x a1 → rf_at x ≤ 5 → (2 ≤ s.1 66 9 ∧ s.1 66 9 ≤ 6000) → s.1 66 50 + 2 * (rf_at x : Int) ≤ 59999 → s.1 66 58 + (rf_at x : Int) ≤ 399999 → s.1 66 56 + 5 ≤ 119990 → rf_no s (.inner x1.toNat k () f0 .leaf) x1 → (rf_idx (.inner x1.toNat k () f0 .leaf)).Nodup → (∀ j ∈ rf_idx (.inner x1.toNat k () f0 .leaf), x1 ≤ (j : Int)) → (((k.1 = 1 ∨ k.1 = 2) ∧ ∃ w, rf_H s x1.toNat k.1 k.2 w ∧ (rf_gt (rf_H s) rf_P f0).2 w x) ∨ (k.1 = 3 ∧ f0 = .leaf ∧ rf_mp s x1.toNat k.2 x (s.1 66 56))) → (∀ (z : Int) (t : sx_S), cx_I t → cx_F [(66, 66), (100, 103), (105, 106)] s t → rf_f [50, 56, 58] s t → rf_xu s t → rf_ag 100 103 x1 s t → (t.1 66 50 + 2 ≤ s.1 66 50 + 2 * (rf_at x : Int) ∧ t.1 66 58 + 1 ≤ s.1 66 58 + (rf_at x : Int) ∧ t.1 66 56 + 1 ≤ s.1 66 56 + (rf_at x : Int) ∧ (k.1 ≠ 3 → t.1 66 56 = s.1 66 56)) → rf_made x1 x t z (rf_PC (s.1 66 58) k f0 x (rf_rv s x1) x1 t) → K z t) → sx_C sL sx e 180 [.inr (.inl 66), .inl x1, .inl a1] s K := fun e he => by
      obtain ⟨q, rfl⟩ : ∃ q, e = q + 2 := ⟨e - 2, by omega⟩
      exact rf_cl_ok hsL (by omega) (ih q (by omega)).2
    refine ⟨key d hd, ?_⟩
    obtain ⟨q, rfl⟩ : ∃ q, d = q + 1 := ⟨d - 1, by omega⟩
    exact rf_lv hsL (by omega) (key (q + 1) hd)
