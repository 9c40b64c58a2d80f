/-! ===== the desk's terms: append, exactly ===== -/
theorem w_dz_app {CALL : sx_Ca} {sL : Nat} {sx : Nat → Int32} {Q : Nat → sx_L → sx_S → Prop} {R : Int → sx_S → Prop} {s : sx_S} {a0 a1 : Int} (hI : cx_I s) (p0 : 0 ≤ a0 ∧ a0 < s.1 11 6) (p1 : 0 ≤ a1 ∧ a1 < s.1 11 6) (p2 : 0 ≤ s.2.1 16 a0.toNat ∧ s.2.1 16 a0.toNat + 1 ≤ s.1 11 6) (hQ : Q 35 [(0, .inr (.inl 11)), (1, .inl a0), (2, .inl a1), (3, .inl (s.2.1 14 a0.toNat)), (4, .inl 1)] s) : sx_wp true sL sx eX7_append CALL [(35, [0, 1, 2, 3, 4])] Q R 400 0 (sx_argsF 0 [.inr (.inl 11), .inl a0, .inl a1]) [] s := by
  have h0 := hI.fld 11 6 (by decide) rfl
  repeat' (first | (with_reducible (rintro _ rfl)) | (with_reducible intro _) | (refine And.intro ?_ ?_))
  all_goals (try dsimp only at *)
  all_goals (first | trivial | assumption | omega | (exfalso; omega) | skip)
theorem w_dz_app_35 {CALL : sx_Ca} {sL : Nat} {sx : Nat → Int32} {Q : Nat → sx_L → sx_S → Prop} {R : Int → sx_S → Prop} {s : sx_S} {a0 a1 : Int} (hI : cx_I s) (p0 : 0 ≤ a0 ∧ a0 < s.1 11 6) (p1 : 0 ≤ a1 ∧ a1 < s.1 11 6) (p2 : 0 ≤ s.2.1 16 a0.toNat ∧ s.2.1 16 a0.toNat + 1 ≤ s.1 11 6) {x3 x4 : Int} (q3 : -1 ≤ x3 ∧ x3 < s.1 11 6) (q4 : 1 ≤ x4 ∧ x4 ≤ 2000) (hK1 : x3 = -1 → R 0 (s.1, sx_ua (sx_ua s.2.1 14 a0.toNat a1) 16 a0.toNat (s.2.1 16 a0.toNat + 1), s.2.2)) (hK2 : 0 ≤ x3 → (s.2.1 16 a0.toNat ≤ x4 ∨ s.2.1 15 x3.toNat < 0) → R 0 (s.1, sx_ua (sx_ua s.2.1 15 x3.toNat a1) 16 a0.toNat (s.2.1 16 a0.toNat + 1), s.2.2)) (hQ : 0 ≤ x3 → x4 < s.2.1 16 a0.toNat → 0 ≤ s.2.1 15 x3.toNat → Q 35 [(0, .inr (.inl 11)), (1, .inl a0), (2, .inl a1), (3, .inl (s.2.1 15 x3.toNat)), (4, .inl (x4 + 1))] s) : sx_wp true sL sx eX7_append CALL [(35, [0, 1, 2, 3, 4])] Q R 400 35 [(0, .inr (.inl 11)), (1, .inl a0), (2, .inl a1), (3, .inl x3), (4, .inl x4)] [] s := by
  have h0 := hI.fld 11 6 (by decide) rfl
  have zzu : sx_w true (s.2.1 16 a0.toNat + 1) = s.2.1 16 a0.toNat + 1 := px_wid (by omega) (by omega)
  have zzy : sx_w true (x4 + 1) = x4 + 1 := px_wid (by omega) (by omega)
  have zza : ∀ v, (sx_ua s.2.1 14 a0.toNat v) 16 a0.toNat = s.2.1 16 a0.toNat := fun v => by rw [sx_ua_ne (by decide)]
  have zzb : ∀ v, (sx_ua s.2.1 15 x3.toNat v) 16 a0.toNat = s.2.1 16 a0.toNat := fun v => by rw [sx_ua_ne (by decide)]
  have zz1 : x3 = -1 → cx_I (s.1, sx_ua s.2.1 14 a0.toNat a1, s.2.2) := fun _ => cx_I_ua rfl rfl hI (by omega) (by omega)
  have zz2 : cx_I (s.1, sx_ua (sx_ua s.2.1 14 a0.toNat a1) 16 a0.toNat (s.2.1 16 a0.toNat + 1), s.2.2) := cx_I_ari (cx_I_ua rfl rfl hI (by omega) (by omega)) (by omega) (by omega)
  have zz3 : cx_I (s.1, sx_ua s.2.1 15 x3.toNat a1, s.2.2) := cx_I_ua rfl rfl hI (by omega) (by omega)
  have zz4 : cx_I (s.1, sx_ua (sx_ua s.2.1 15 x3.toNat a1) 16 a0.toNat (s.2.1 16 a0.toNat + 1), s.2.2) := cx_I_ari (cx_I_ua rfl rfl hI (by omega) (by omega)) (by omega) (by omega)
  repeat' (first | (with_reducible (rintro _ rfl)) | (with_reducible intro _) | (refine And.intro ?_ ?_))
  all_goals (try dsimp only at *)
  all_goals (first | trivial | assumption | omega | (exfalso; omega) | (have zz9 := hQ (by omega) (by omega) (by omega); rw [← zzy] at zz9; exact zz9) | (show R _ _; rw [zza, zzu]; exact hK1 (by omega)) | (show R _ _; rw [zzb, zzu]; exact hK2 (by omega) (by omega)) | (rw [zza, zzu]; assumption) | (rw [zzb, zzu]; assumption) | (simp only [zza, zzb, zzu] at *; omega) | (exact zz1 (by omega)) | skip)
theorem c_dz_app0 {sL : Nat} {sx : Nat → Int32} (hsL : sL ≤ 3072) (d : Nat) (hd : 2 ≤ d) : ∀ (a0 a1 : Int) (f : rf_N) (s : sx_S) (R : Int → sx_S → Prop), cx_I s → (0 ≤ a0 ∧ a0 < s.1 11 6) → (0 ≤ a1 ∧ a1 < s.1 11 6) → rf_nd (s.2.1 12) (s.2.1 13) (s.2.1 14) (s.2.1 15) (s.1 11 6) f (s.2.1 14 a0.toNat) → s.2.1 16 a0.toNat = (rf_len f : Int) → (rf_len f : Int) + 1 ≤ s.1 11 6 → (f = .leaf → R 0 (s.1, sx_ua (sx_ua s.2.1 14 a0.toNat a1) 16 a0.toNat (s.2.1 16 a0.toNat + 1), s.2.2)) → (f ≠ .leaf → R 0 (s.1, sx_ua (sx_ua s.2.1 15 (rf_last f 0) a1) 16 a0.toNat (s.2.1 16 a0.toNat + 1), s.2.2)) → sx_C sL sx d 90 [.inr (.inl 11), .inl a0, .inl a1] s R := by
  intro a0 a1 f s R hI p0 p1 hf p2 p3 hK1 hK2
  have h0 := hI.fld 11 6 (by decide) rfl
  obtain ⟨d, rfl⟩ : ∃ e, d = e + 2 := ⟨d - 2, by omega⟩
  refine sx_methL (wr := true) (n := 400) (n' := 400) (stop := [(35, [0, 1, 2, 3, 4])]) (fun nn pc ls u => pc = 35 ∧ u = s ∧ ∃ (x3 x4 : Int) (g : rf_N), ls = [(0, .inr (.inl 11)), (1, .inl a0), (2, .inl a1), (3, .inl x3), (4, .inl x4)] ∧ rf_nd (s.2.1 12) (s.2.1 13) (s.2.1 14) (s.2.1 15) (s.1 11 6) g x3 ∧ (g = .leaf → f = .leaf) ∧ (g ≠ .leaf → f ≠ .leaf ∧ rf_last g 0 = rf_last f 0) ∧ (rf_len g : Int) + x4 = (rf_len f : Int) + 1 ∧ 1 ≤ x4 ∧ nn = rf_len g) hsL (e := eX7_append) rfl ?_ ?_
  · exact w_dz_app hI p0 p1 (by omega) ⟨_, rfl, rfl, _, _, f, rfl, hf, fun h => h, fun h => ⟨h, rfl⟩, by omega, by omega, rfl⟩
  · rintro nn pc ls u ⟨rfl, rfl, x3, x4, g, rfl, i1, i2, i3, i4, i5, rfl⟩
    have r3 := rf_nd_rng i1
    cases g with
    | leaf =>
      have e3 : x3 = -1 := i1
      exact w_dz_app_35 hI p0 p1 (by omega) (by omega) (by omega) (fun _ => hK1 (i2 rfl)) (fun h => absurd h (by omega)) (fun h => absurd h (by omega))
    | inner j k v ff x =>
      obtain ⟨⟨e0, e1⟩, ⟨e2, e3⟩, e4, e5⟩ := i1
      obtain ⟨l1, l2⟩ := i3 (fun h => by cases h)
      have ej : x3.toNat = j := by omega
      have el : (rf_len (.inner j k v ff x) : Int) = (rf_len x : Int) + 1 := by
        show (((rf_len x + 1 : Nat)) : Int) = _
        omega
      have r5 := rf_nd_rng e5
      refine w_dz_app_35 hI p0 p1 (by omega) (by omega) (by omega) (fun h => absurd h (by omega)) (fun _ h => ?_) (fun _ h1 h2 => ?_)
      · have hx : x = .leaf := by
          rcases h with h | h
          · cases x with
            | leaf => rfl
            | inner j' k' v' f' x' =>
              have : (rf_len (.inner j' k' v' f' x') : Int) = (rf_len x' : Int) + 1 := by
                show (((rf_len x' + 1 : Nat)) : Int) = _
                omega
              omega
          · rw [ej] at h
            exact rf_nd_nil e5 (by omega)
        subst hx
        have l3 : j = rf_last f 0 := l2
        rw [ej, l3]
        exact hK2 l1
      · have hx : x ≠ .leaf := fun h => by
          subst h
          have : u.2.1 15 j = -1 := e5
          rw [ej] at h2
          omega
        refine ⟨_, ?_, rfl, rfl, _, _, x, rfl, by rw [ej]; exact e5, fun h => absurd h hx, fun _ => ⟨l1, ?_⟩, by omega, by omega, rfl⟩
        · omega
        · rw [← l2]
          exact rf_last_d _ _ hx
theorem dz_ar_snoc {A : Nat → Int} {p : rf_N} (hp : dz_ar A p) : ∀ {f : rf_N}, dz_ar A f → dz_ar A (rf_snoc f p)
  | .leaf, _ => hp
  | .inner _ _ _ _ _, ⟨a1, a2, a3⟩ => ⟨a1, a2, dz_ar_snoc hp a3⟩
/-- a part is put behind the last: the tree -/
theorem dz_T_app {lo a1 : Int} {z : Nat} {k h : Int} {f P : rf_N} {s : sx_S} (hk : k ≠ 0) (hT : dz_T lo s (rf_n z k h f .leaf) (z : Int)) (hP : dz_T lo s P a1) (hd : ∀ j ∈ rf_idx (rf_n z k h f .leaf), j ∉ rf_idx P) (h1 : rf_len P = 1) {t : sx_S} (ht : t.1 = s.1) (hc : ∀ p, p ≠ 14 → p ≠ 15 → p ≠ 16 → t.2.1 p = s.2.1 p) (h16 : t.2.1 16 = fun j => if j = z then s.2.1 16 z + 1 else s.2.1 16 j) (h14 : f = .leaf → t.2.1 14 = fun j => if j = z then a1 else s.2.1 14 j) (h14b : f ≠ .leaf → t.2.1 14 = s.2.1 14) (h15 : f = .leaf → t.2.1 15 = s.2.1 15) (h15b : f ≠ .leaf → t.2.1 15 = fun j => if j = rf_last f 0 then a1 else s.2.1 15 j) : dz_T lo t (rf_n z k h (rf_snoc f P) .leaf) (z : Int) ∧ dz_fr (fun j => j ∉ rf_idx (rf_n z k h f .leaf)) s t := by
  obtain ⟨⟨⟨a1', a2⟩, ⟨a3, a4⟩, a5, a6⟩, ⟨⟨b1, b2, b3⟩, b4, b5⟩, c1, c2, c3⟩ := hT trivial
  obtain ⟨d1, d2, d3, d4, d5⟩ := hP trivial
  have b3' := b3 hk
  have hz : z ∉ rf_idx f := fun q => (List.nodup_cons.mp c1).1 (List.mem_append_left _ q)
  have c1' : (rf_idx f).Nodup := (List.nodup_append.mp (List.nodup_cons.mp c1).2).1
  have hzP : z ∉ rf_idx P := hd z List.mem_cons_self
  have hfP : ∀ j ∈ rf_idx f, j ∉ rf_idx P := fun j hj => hd j (List.mem_cons_of_mem _ (List.mem_append_left _ hj))
  have hlP : f ≠ .leaf → rf_last f 0 ∉ rf_idx P := fun q => hfP _ (rf_last_mem f 0 q)
  have hlz : f ≠ .leaf → rf_last f 0 ≠ z := fun q e => hz (e ▸ rf_last_mem f 0 q)
  have hfr : dz_fr (fun j => j ∉ rf_idx (rf_n z k h f .leaf)) s t := fun _ => by
    refine ⟨by rw [ht]; exact Int.le_refl _, fun j hj => ?_⟩
    have j1 : j ≠ z := fun e => hj (e ▸ List.mem_cons_self)
    have j2 : f ≠ .leaf → j ≠ rf_last f 0 := fun q e => hj (List.mem_cons_of_mem _ (List.mem_append_left _ (e ▸ rf_last_mem f 0 q)))
    rw [hc 12 (by decide) (by decide) (by decide), hc 13 (by decide) (by decide) (by decide), h16]
    by_cases q : f = .leaf
    · rw [h14 q, h15 q]
      exact ⟨rfl, rfl, if_neg j1, rfl, if_neg j1⟩
    · rw [h14b q, h15b q]
      exact ⟨rfl, rfl, rfl, if_neg (j2 q), if_neg j1⟩
  have hP' := dz_T_fr hP hfr (fun j hj q => hd j q hj)
  obtain ⟨e1, e2, _⟩ := hP' trivial
  have hnd : dz_nd t (rf_snoc f P) (t.2.1 14 z) := by
    by_cases q : f = .leaf
    · have : t.2.1 14 z = a1 := by rw [h14 q]; exact if_pos rfl
      rw [q, this]
      exact e1
    · have h14' : t.2.1 14 = s.2.1 14 := h14b q
      have h15' : t.2.1 15 = fun j => if j = rf_last f 0 then a1 else s.2.1 15 j := h15b q
      have e1' : rf_nd (s.2.1 12) (s.2.1 13) (s.2.1 14) (t.2.1 15) (s.1 11 6) P a1 := by
        have := e1
        unfold dz_nd at this
        rw [hc 12 (by decide) (by decide) (by decide), hc 13 (by decide) (by decide) (by decide), h14', ht] at this
        exact this
      have := rf_nd_snoc e1' (t := f) (i := s.2.1 14 z) (d := 0) q c1' (fun j hj => by rw [h15']; exact if_neg hj) (by rw [h15']; exact if_pos rfl) a5
      show rf_nd (t.2.1 12) (t.2.1 13) (t.2.1 14) (t.2.1 15) (t.1 11 6) _ _
      rw [hc 12 (by decide) (by decide) (by decide), hc 13 (by decide) (by decide) (by decide), h14', ht]
      exact this
  refine ⟨fun _ => ⟨⟨⟨rfl, by rw [ht]; omega⟩, ⟨by rw [hc 12 (by decide) (by decide) (by decide)]; exact a3, by rw [hc 13 (by decide) (by decide) (by decide)]; exact a4⟩, hnd, ?_⟩, ⟨⟨b1, b2, fun _ => ?_⟩, dz_ar_snoc e2 (dz_ar_mono (fun j hj => ?_) b4), trivial⟩, ?_, fun j hj => ?_, rfl⟩, hfr⟩
  · show t.2.1 15 z = -1
    have a6' : s.2.1 15 z = -1 := a6
    by_cases q : f = .leaf
    · rw [h15 q]
      exact a6'
    · rw [h15b q]
      dsimp only
      rw [if_neg (fun e => hlz q e.symm)]
      exact a6'
  · rw [h16, rf_len_snoc, h1]
    dsimp only
    rw [if_pos rfl, b3']
    omega
  · rw [h16]
    exact if_neg (fun e => hz (by rw [← e]; exact hj))
  · show (z :: (rf_idx (rf_snoc f P) ++ [])).Nodup
    rw [List.append_nil]
    refine List.nodup_cons.mpr ⟨fun q => ?_, rf_nodup_snoc f P c1' d3 hfP⟩
    rcases (rf_idx_snoc f P z).mp q with q | q
    · exact hz q
    · exact hzP q
  · have hj' : j ∈ z :: (rf_idx (rf_snoc f P) ++ []) := hj
    rw [List.append_nil] at hj'
    rcases List.mem_cons.mp hj' with q | q
    · exact c2 j (by rw [q]; exact List.mem_cons_self)
    · rcases (rf_idx_snoc f P j).mp q with q | q
      · exact c2 j (List.mem_cons_of_mem _ (List.mem_append_left _ q))
      · exact d4 j q
theorem rf_nx_len : ∀ {N : rf_N}, rf_nx N → N ≠ .leaf → rf_len N = 1
  | .leaf, _, h => absurd rfl h
  | .inner _ _ _ _ x, h, _ => by
    have e : x = .leaf := h
    rw [e]
    rfl

theorem c_dz_append {sL : Nat} {sx : Nat → Int32} (hsL : sL ≤ 3072) (d : Nat) (hd : 2 ≤ d) : ∀ (lo : Int) (a0 a1 : Int) (k h : Int) (f P : rf_N) (s : sx_S) (R : Int → sx_S → Prop), cx_I s → k ≠ 0 → dz_T lo s (rf_n a0.toNat k h f .leaf) a0 → dz_T lo s P a1 → P ≠ .leaf → (∀ j ∈ rf_idx (rf_n a0.toNat k h f .leaf), j ∉ rf_idx P) → (rf_len f : Int) + 1 ≤ s.1 11 6 → (∀ t, cx_I t → cx_F [(11, 17)] s t → (t.1 = s.1 ∧ t.2.1 17 = s.2.1 17) → dz_T lo t (rf_n a0.toNat k h (rf_snoc f P) .leaf) a0 → dz_fr (fun j => j ∉ rf_idx (rf_n a0.toNat k h f .leaf)) s t → R 0 t) → sx_C sL sx d 90 [.inr (.inl 11), .inl a0, .inl a1] s R := by
  intro lo a0 a1 k h f P s R hI hk hT hP hPl hdj hl hK
  have h0 := hI.fld 11 6 (by decide) rfl
  obtain ⟨⟨⟨a1', a2⟩, ⟨a3, a4⟩, a5, a6⟩, ⟨⟨b1, b2, b3⟩, b4, b5⟩, c1, c2, c3⟩ := hT trivial
  obtain ⟨d1, d2, d3, d4, d5⟩ := hP trivial
  have r1 := rf_nd_rng d1
  have r2 : a1 ≠ -1 := fun e => hPl (rf_nd_nil d1 e)
  have hT' : dz_T lo s (rf_n a0.toNat k h f .leaf) (a0.toNat : Int) := by rw [← a1']; exact hT
  have h16 := b3 hk
  refine c_dz_app0 hsL d hd a0 a1 f s R hI (by omega) (by omega) a5 h16 hl (fun q => ?_) (fun q => ?_)
  · obtain ⟨m1, m2⟩ := dz_T_app (t := (s.1, sx_ua (sx_ua s.2.1 14 a0.toNat a1) 16 a0.toNat (s.2.1 16 a0.toNat + 1), s.2.2)) hk hT' hP hdj (rf_nx_len d5 hPl) rfl (fun p p1 p2 p3 => by dsimp only; rw [sx_ua_ne p3, sx_ua_ne p1]) (by dsimp only; rw [sx_ua_same, sx_ua_ne (by decide)]) (fun _ => by dsimp only; rw [sx_ua_ne (by decide), sx_ua_same]) (fun h => absurd q h) (fun _ => by dsimp only; rw [sx_ua_ne (by decide), sx_ua_ne (by decide)]) (fun h => absurd q h)
    rw [← a1'] at m1
    exact hK _ (cx_I_ari (cx_I_ua rfl rfl hI (by omega) (by omega)) (by omega) (by omega)) (cx_F_ua rfl (cx_F_ua rfl (cx_F_refl _ _))) ⟨rfl, by dsimp only; rw [sx_ua_ne (by decide), sx_ua_ne (by decide)]⟩ m1 m2
  · obtain ⟨m1, m2⟩ := dz_T_app (t := (s.1, sx_ua (sx_ua s.2.1 15 (rf_last f 0) a1) 16 a0.toNat (s.2.1 16 a0.toNat + 1), s.2.2)) hk hT' hP hdj (rf_nx_len d5 hPl) rfl (fun p p1 p2 p3 => by dsimp only; rw [sx_ua_ne p3, sx_ua_ne p2]) (by dsimp only; rw [sx_ua_same, sx_ua_ne (by decide)]) (fun h => absurd h q) (fun _ => by dsimp only; rw [sx_ua_ne (by decide), sx_ua_ne (by decide)]) (fun h => absurd h q) (fun _ => by dsimp only; rw [sx_ua_ne (by decide), sx_ua_same])
    rw [← a1'] at m1
    exact hK _ (cx_I_ari (cx_I_ua rfl rfl hI (by omega) (by omega)) (by omega) (by omega)) (cx_F_ua rfl (cx_F_ua rfl (cx_F_refl _ _))) ⟨rfl, by dsimp only; rw [sx_ua_ne (by decide), sx_ua_ne (by decide)]⟩ m1 m2
