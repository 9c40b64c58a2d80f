/-! ===== the desk's terms: LAMBDAs, variables; parts put behind the last ===== -/
theorem dz_N1_b {s t : sx_S} {h b : Int} (hI : cx_I t) (hF : cx_F [(11, 17)] s t) (h0 : 0 ≤ s.1 11 6) (hN : dz_N1 0 h (-1) s t) (hb : -1 ≤ b ∧ b ≤ 1023) : cx_I (t.1, sx_ua t.2.1 14 (s.1 11 6).toNat b, t.2.2) ∧ cx_F [(11, 17)] s (t.1, sx_ua t.2.1 14 (s.1 11 6).toNat b, t.2.2) ∧ dz_N1 0 h b s (t.1, sx_ua t.2.1 14 (s.1 11 6).toNat b, t.2.2) := by
  refine ⟨cx_I_ua rfl rfl hI (by omega) (by omega), cx_F_ua rfl hF, fun _ => ?_⟩
  obtain ⟨n1, n2, n3, n4, n5, n6, n7, n8, n9⟩ := hN trivial
  refine ⟨n1, n2, by dsimp only; rw [sx_ua_ne (by decide)]; exact n3, fun j hj => ?_, ?_⟩
  · have hj2 : j ≠ (s.1 11 6).toNat := by omega
    obtain ⟨q1, q2, q3, q4, q5⟩ := n4 j hj
    simp [sx_ua_if, hj2, q1, q2, q3, q4, q5]
  · simp [sx_ua_if, n5, n6, n8, n9]
theorem w_dz_lambda {CALL : sx_Ca} {sL : Nat} {sx : Nat → Int32} {Q : Nat → sx_L → sx_S → Prop} {R : Int → sx_S → Prop} (h_node : ∀ (a0 a1 : Int) (s : sx_S) (R : Int → sx_S → Prop), cx_I s → s.1 11 6 < 1024 → (-2147483648 ≤ a0 ∧ a0 ≤ 2147483647) → (-2147483648 ≤ a1 ∧ a1 ≤ 2147483647) → (∀ t, cx_I t → cx_F [(11, 17)] s t → dz_N1 a0 a1 (-1) s t → R (s.1 11 6) t) → CALL 88 [.inr (.inl 11), .inl a0, .inl a1] s R) {s : sx_S} {a0 a1 : Int} (hI : cx_I s) (hN : s.1 11 6 < 1024) (p0 : -2147483648 ≤ a0 ∧ a0 ≤ 2147483647) (p1 : -1 ≤ a1 ∧ a1 ≤ 1023) (hK : ∀ t, cx_I t → cx_F [(11, 17)] s t → dz_N1 0 a0 a1 s t → R (s.1 11 6) t) : sx_wp true sL sx eX7_lambda CALL [] Q R 400 0 (sx_argsF 0 [.inr (.inl 11), .inl a0, .inl a1]) [] s := by
  have h0 := hI.fld 11 6 (by decide) rfl
  refine h_node _ _ _ _ hI hN (by omega) p0 (fun t t1 t2 t3 => ?_)
  obtain ⟨m1, m2, m3⟩ := dz_N1_b t1 t2 h0.1 t3 p1
  have zz1 := hK _ m1 m2 m3
  repeat' (first | (with_reducible (rintro _ rfl)) | (with_reducible intro _) | (refine And.intro ?_ ?_))
  all_goals (try dsimp only at *)
  all_goals (first | trivial | assumption | omega | (exfalso; omega) | (show R _ _; exact zz1) | skip)
theorem c_dz_lambda {sL : Nat} {sx : Nat → Int32} (hsL : sL ≤ 3072) (d : Nat) (hd : 3 ≤ d) : ∀ (a0 a1 : Int) (s : sx_S) (R : Int → sx_S → Prop), cx_I s → s.1 11 6 < 1024 → (-2147483648 ≤ a0 ∧ a0 ≤ 2147483647) → (-1 ≤ a1 ∧ a1 ≤ 1023) → (∀ t, cx_I t → cx_F [(11, 17)] s t → dz_N1 0 a0 a1 s t → R (s.1 11 6) t) → sx_C sL sx d 89 [.inr (.inl 11), .inl a0, .inl a1] s R := by
  intro a0 a1 s R hI hN p0 p1 hK
  obtain ⟨d, rfl⟩ : ∃ e, d = e + 2 := ⟨d - 2, by omega⟩
  exact sx_meth (wr := true) (n := 400) hsL (e := eX7_lambda) rfl (w_dz_lambda (Q := fun _ _ _ => False) (c_dz_node hsL (d + 1) (by omega)) hI hN p0 p1 hK)
/-- a new variable of type a -/
def dz_V1 (a : Int) (s t : sx_S) : Prop := True → t.1 11 8 = s.1 11 8 + 1 ∧ t.1 11 6 = s.1 11 6 ∧ (t.2.1 12 = s.2.1 12 ∧ t.2.1 13 = s.2.1 13 ∧ t.2.1 14 = s.2.1 14 ∧ t.2.1 15 = s.2.1 15 ∧ t.2.1 16 = s.2.1 16) ∧ t.2.1 17 (s.1 11 8).toNat = a ∧ ∀ j : Nat, (j : Int) < s.1 11 8 → t.2.1 17 j = s.2.1 17 j
theorem w_dz_variable {CALL : sx_Ca} {sL : Nat} {sx : Nat → Int32} {Q : Nat → sx_L → sx_S → Prop} {R : Int → sx_S → Prop} {s : sx_S} {a0 : Int} (hI : cx_I s) (hN : s.1 11 8 < 512) (p0 : -2147483648 ≤ a0 ∧ a0 ≤ 2147483647) (hK : ∀ t, cx_I t → cx_F [(11, 17)] s t → dz_V1 a0 s t → R (s.1 11 8) t) : sx_wp true sL sx eX7_variable CALL [] Q R 400 0 (sx_argsF 0 [.inr (.inl 11), .inl a0]) [] s := by
  have h0 := hI.fld 11 8 (by decide) rfl
  have m3 : dz_V1 a0 s (sx_uf s.1 11 8 (s.1 11 8 + 1), sx_ua s.2.1 17 (s.1 11 8).toNat a0, s.2.2) := fun _ => by
    refine ⟨by dsimp only; exact px_us _ _ _ _, rfl, ⟨rfl, rfl, rfl, rfl, rfl⟩, ?_, fun j hj => ?_⟩
    · simp [sx_ua_if]
    · have hj2 : j ≠ (s.1 11 8).toNat := by omega
      simp [sx_ua_if, hj2]
  have m1 : cx_I (sx_uf s.1 11 8 (s.1 11 8 + 1), sx_ua s.2.1 17 (s.1 11 8).toNat a0, s.2.2) := cx_I_uf rfl rfl (cx_I_ua rfl rfl hI (by omega) (by omega)) (by omega) (by omega)
  have zz1 := hK _ m1 (cx_F_uf rfl (cx_F_ua rfl (cx_F_refl _ _))) m3
  have zzu : sx_w true (s.1 11 8 + 1) = s.1 11 8 + 1 := px_wid (by omega) (by omega)
  have zzv : sx_w true (s.1 11 8 + 1 - 1) = s.1 11 8 := by rw [px_wid (by omega) (by omega)]; omega
  repeat' (first | (with_reducible (rintro _ rfl)) | (with_reducible intro _) | (refine And.intro ?_ ?_))
  all_goals (try dsimp only at *)
  all_goals (first | trivial | assumption | omega | (exfalso; omega) | (show R _ _; simp only [px_us, zzu, zzv]; exact zz1) | (simp only [px_us, zzu, zzv] at *; first | assumption | omega) | (repeat' (first | (with_reducible assumption) | ((with_reducible (change cx_I (sx_uf _ _ _ _, _))); refine cx_I_uf rfl rfl ?_ ?_ ?_) | ((with_reducible (change cx_I (_, sx_ua _ _ _ _, _))); refine cx_I_ua rfl rfl ?_ ?_ ?_) | ((with_reducible (change cx_I (_, sx_ua _ 16 _ _, _))); refine cx_I_ari ?_ ?_ ?_) | ((with_reducible (change cx_I (sx_uf _ 11 6 _, _))); refine cx_I_ufA rfl ?_ ?_ ?_ ?_) | (with_reducible exact cx_F_refl _ _) | ((with_reducible (change cx_F _ _ (sx_uf _ _ _ _, _))); refine cx_F_uf rfl ?_) | ((with_reducible (change cx_F _ _ (_, sx_ua _ _ _ _, _))); refine cx_F_ua rfl ?_) | ((with_reducible (change cx_I (_, sx_cpy _ _ _ _ _ _, _))); refine cx_I_cpy rfl rfl rfl (by decide) ?_) | ((with_reducible (change cx_F _ _ (_, sx_cpy _ _ _ _ _ _, _))); refine cx_F_cpy rfl ?_) | ((with_reducible (change cx_F _ _ _)); refine cx_F_step (by assumption) rfl ?_) | fail)) | skip)
  all_goals (first | trivial | assumption | omega | (simp only [px_us, zzu, zzv] at *; omega) | skip)
theorem c_dz_variable {sL : Nat} {sx : Nat → Int32} (hsL : sL ≤ 3072) (d : Nat) (hd : 2 ≤ d) : ∀ (a0 : Int) (s : sx_S) (R : Int → sx_S → Prop), cx_I s → s.1 11 8 < 512 → (-2147483648 ≤ a0 ∧ a0 ≤ 2147483647) → (∀ t, cx_I t → cx_F [(11, 17)] s t → dz_V1 a0 s t → R (s.1 11 8) t) → sx_C sL sx d 86 [.inr (.inl 11), .inl a0] s R := by
  intro a0 s R hI hN p0 hK
  obtain ⟨d, rfl⟩ : ∃ e, d = e + 2 := ⟨d - 2, by omega⟩
  exact sx_meth (wr := true) (n := 400) hsL (e := eX7_variable) rfl (w_dz_variable (Q := fun _ _ _ => False) hI hN p0 hK)
/-! trees of the desk's nodes -/
abbrev dz_nd (s : sx_S) (N : rf_N) (z : Int) : Prop := rf_nd (s.2.1 12) (s.2.1 13) (s.2.1 14) (s.2.1 15) (s.1 11 6) N z
def dz_ar (A : Nat → Int) : rf_N → Prop
  | .leaf => True
  | .inner j k _ f x => (0 ≤ k.1 ∧ 0 ≤ k.2 ∧ (k.1 ≠ 0 → A j = (rf_len f : Int))) ∧ dz_ar A f ∧ dz_ar A x
def dz_T (lo : Int) (s : sx_S) (N : rf_N) (z : Int) : Prop := True → dz_nd s N z ∧ dz_ar (s.2.1 16) N ∧ (rf_idx N).Nodup ∧ (∀ j ∈ rf_idx N, lo ≤ (j : Int)) ∧ rf_nx N
def dz_fr (P : Nat → Prop) (s t : sx_S) : Prop := True → s.1 11 6 ≤ t.1 11 6 ∧ ∀ j : Nat, P j → t.2.1 12 j = s.2.1 12 j ∧ t.2.1 13 j = s.2.1 13 j ∧ t.2.1 14 j = s.2.1 14 j ∧ t.2.1 15 j = s.2.1 15 j ∧ t.2.1 16 j = s.2.1 16 j
theorem dz_ar_mono {A A' : Nat → Int} : ∀ {N : rf_N}, (∀ j ∈ rf_idx N, A' j = A j) → dz_ar A N → dz_ar A' N
  | .leaf, _, _ => trivial
  | .inner j k _ f x, h, ⟨⟨a1, a2, a3⟩, a4, a5⟩ => ⟨⟨a1, a2, fun q => (h j List.mem_cons_self).trans (a3 q)⟩, dz_ar_mono (fun i hi => h i (List.mem_cons_of_mem _ (List.mem_append_left _ hi))) a4, dz_ar_mono (fun i hi => h i (List.mem_cons_of_mem _ (List.mem_append_right _ hi))) a5⟩
theorem dz_nd_fr {P : Nat → Prop} {s t : sx_S} {N : rf_N} {z : Int} (h : dz_nd s N z) (hf : dz_fr P s t) (hP : ∀ j ∈ rf_idx N, P j) : dz_nd t N z := rf_nd_mono (hf trivial).1 (fun j hj => by
  obtain ⟨a1, a2, a3, a4, _⟩ := (hf trivial).2 j (hP j hj)
  exact ⟨a1, a2, a3, a4⟩) h
theorem dz_T_fr {P : Nat → Prop} {lo : Int} {s t : sx_S} {N : rf_N} {z : Int} (h : dz_T lo s N z) (hf : dz_fr P s t) (hP : ∀ j ∈ rf_idx N, P j) : dz_T lo t N z := fun _ => by
  obtain ⟨h1, h2, h3, h4, h5⟩ := h trivial
  exact ⟨dz_nd_fr h1 hf hP, dz_ar_mono (fun j hj => ((hf trivial).2 j (hP j hj)).2.2.2.2) h2, h3, h4, h5⟩
theorem dz_T_lo {lo lo' : Int} {s : sx_S} {N : rf_N} {z : Int} (h : dz_T lo s N z) (hl : lo' ≤ lo) : dz_T lo' s N z := fun _ => by
  obtain ⟨h1, h2, h3, h4, h5⟩ := h trivial
  exact ⟨h1, h2, h3, fun j hj => Int.le_trans hl (h4 j hj), h5⟩
theorem dz_fr_refl (P : Nat → Prop) (s : sx_S) : dz_fr P s s := fun _ => ⟨Int.le_refl _, fun _ _ => ⟨rfl, rfl, rfl, rfl, rfl⟩⟩
theorem dz_fr_t {P P' : Nat → Prop} {s t u : sx_S} (h2 : dz_fr P' t u) (h1 : dz_fr P s t) (hP : ∀ j, P j → P' j) : dz_fr P s u := fun _ => by
  obtain ⟨a1, a2⟩ := h1 trivial
  obtain ⟨b1, b2⟩ := h2 trivial
  refine ⟨Int.le_trans a1 b1, fun j hj => ?_⟩
  obtain ⟨c1, c2, c3, c4, c5⟩ := a2 j hj
  obtain ⟨d1, d2, d3, d4, d5⟩ := b2 j (hP j hj)
  exact ⟨d1.trans c1, d2.trans c2, d3.trans c3, d4.trans c4, d5.trans c5⟩
theorem dz_fr_w {P P' : Nat → Prop} {s t : sx_S} (h : dz_fr P' s t) (hP : ∀ j, P j → P' j) : dz_fr P s t := fun _ => ⟨(h trivial).1, fun j hj => (h trivial).2 j (hP j hj)⟩
theorem dz_fr_N1 {k h f : Int} {s t : sx_S} (h0 : dz_N1 k h f s t) : dz_fr (fun j => (j : Int) < s.1 11 6) s t := fun _ => by
  obtain ⟨a1, _, _, a4, _⟩ := h0 trivial
  exact ⟨by omega, fun j hj => a4 j (by omega)⟩
theorem dz_fr_V1 {a : Int} {s t : sx_S} (h0 : dz_V1 a s t) : dz_fr (fun _ => True) s t := fun _ => by
  obtain ⟨_, a2, ⟨a3, a4, a5, a6, a7⟩, _⟩ := h0 trivial
  exact ⟨by omega, fun j _ => by rw [a3, a4, a5, a6, a7]; exact ⟨rfl, rfl, rfl, rfl, rfl⟩⟩
theorem dz_T_lt {lo : Int} {s : sx_S} {N : rf_N} {z : Int} (h : dz_T lo s N z) : ∀ j ∈ rf_idx N, (j : Int) < s.1 11 6 := fun j hj => rf_nd_lt (h trivial).1 j hj
/-- a new node alone -/
theorem dz_T_new {k h : Int} {s t : sx_S} (h0 : dz_N1 k h (-1) s t) (hs : 0 ≤ s.1 11 6) (hk : 0 ≤ k) (hh : 0 ≤ h) : dz_T (s.1 11 6) t (rf_n (s.1 11 6).toNat k h .leaf .leaf) (s.1 11 6) := fun _ => by
  obtain ⟨a1, _, _, _, a5, a6, a7, a8, a9⟩ := h0 trivial
  exact ⟨⟨⟨by omega, by omega⟩, ⟨a5, a6⟩, a7, a8⟩, ⟨⟨hk, hh, fun _ => a9⟩, trivial, trivial⟩, by simp [rf_idx], fun j hj => by
    have : j = (s.1 11 6).toNat := by simpa [rf_idx] using hj
    omega, rfl⟩
/-- a LAMBDA over a tree -/
theorem dz_T_lam {h z lo : Int} {N : rf_N} {s t : sx_S} (h0 : dz_N1 0 h z s t) (hs : 0 ≤ s.1 11 6) (hl : lo ≤ s.1 11 6) (hh : 0 ≤ h) (hN : dz_T lo s N z) : dz_T lo t (rf_n (s.1 11 6).toNat 0 h N .leaf) (s.1 11 6) := fun _ => by
  have hlt := dz_T_lt hN
  have hN' := dz_T_fr hN (dz_fr_N1 h0) hlt
  obtain ⟨b1, b2, b3, b4, b5⟩ := hN' trivial
  obtain ⟨a1, _, _, _, a5, a6, a7, a8, a9⟩ := h0 trivial
  refine ⟨⟨⟨by omega, by omega⟩, ⟨a5, a6⟩, by rw [a7]; exact b1, a8⟩, ⟨⟨Int.le_refl _, hh, fun q => absurd rfl q⟩, b2, trivial⟩, ?_, fun j hj => ?_, rfl⟩
  · show (_ :: (rf_idx N ++ [])).Nodup
    rw [List.append_nil]
    refine List.nodup_cons.mpr ⟨fun q => ?_, b3⟩
    have := hlt _ q
    omega
  · have hj' : j ∈ (s.1 11 6).toNat :: (rf_idx N ++ []) := hj
    rw [List.append_nil] at hj'
    rcases List.mem_cons.mp hj' with q | q
    · omega
    · exact b4 j q
