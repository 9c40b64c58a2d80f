/-! ===== the desk's chains (Levels), exactly ===== -/
/-- a chain as a list of (variable, level); its links lie below hi -/
def dv_ch (V L R : Nat → Int) : List (Int × Int) → Int → Int → Prop
  | [], _, c => c = -1
  | p :: r, hi, c => (0 ≤ c ∧ c < hi) ∧ (V c.toNat = p.1 ∧ L c.toNat = p.2) ∧ dv_ch V L R r c (R c.toNat)
abbrev dv_c (s : sx_S) (c : List (Int × Int)) (hi k : Int) : Prop := dv_ch (s.2.1 30) (s.2.1 31) (s.2.1 32) c hi k
def dv_lk : List (Int × Int) → Int → Int
  | [], _ => -1
  | p :: r, x => if p.1 = x then p.2 else dv_lk r x
def dv_va : List (Int × Int) → Int → Int
  | [], _ => -1
  | p :: r, x => if p.2 = x then p.1 else dv_va r x
theorem dv_ch_hi {V L R : Nat → Int} {hi hi' : Int} (h : hi ≤ hi') : ∀ {c : List (Int × Int)} {k : Int}, dv_ch V L R c hi k → dv_ch V L R c hi' k
  | [], _, q => q
  | _ :: _, _, ⟨⟨q1, q2⟩, q3, q4⟩ => ⟨⟨q1, by omega⟩, q3, q4⟩
theorem dv_ch_fr {V L R V' L' R' : Nat → Int} : ∀ {c : List (Int × Int)} {hi k : Int}, (∀ j : Nat, (j : Int) < hi → V' j = V j ∧ L' j = L j ∧ R' j = R j) → dv_ch V L R c hi k → dv_ch V' L' R' c hi k
  | [], _, _, _, q => q
  | _ :: r, hi, k, h, ⟨⟨q1, q2⟩, ⟨q3, q4⟩, q5⟩ => by
    obtain ⟨e1, e2, e3⟩ := h k.toNat (by omega)
    refine ⟨⟨q1, q2⟩, ⟨e1.trans q3, e2.trans q4⟩, ?_⟩
    rw [e3]
    exact dv_ch_fr (fun j hj => h j (by omega)) q5
theorem dv_ch_rng {V L R : Nat → Int} : ∀ {c : List (Int × Int)} {hi k : Int}, dv_ch V L R c hi k → -1 ≤ k ∧ (k = -1 ∨ k < hi)
  | [], _, k, q => by
    have q' : k = -1 := q
    omega
  | _ :: _, _, _, ⟨⟨q1, q2⟩, _⟩ => ⟨by omega, Or.inr q2⟩
theorem w_dv_of5 {CALL : sx_Ca} {sL : Nat} {sx : Nat → Int32} {Q : Nat → sx_L → sx_S → Prop} {R : Int → sx_S → Prop} {s : sx_S} {a1 x3 x4 : Int} (hI : cx_I s) (q1 : -2147483648 ≤ a1 ∧ a1 ≤ 2147483647) (q3 : -2147483648 ≤ x3 ∧ x3 ≤ 2147483647) (q4 : 0 ≤ x4 ∧ x4 ≤ 1024) (hK1 : x3 < 0 → R (-1) s) (hK2 : 0 ≤ x3 → x3 < s.1 29 3 → s.2.1 30 x3.toNat = a1 → R (s.2.1 31 x3.toNat) s) (hQ : 0 ≤ x3 → x3 < s.1 29 3 → s.2.1 30 x3.toNat ≠ a1 → Q 5 [(0, .inr (.inl 29)), (2, .inl a1), (3, .inl (s.2.1 32 x3.toNat)), (4, .inl (x4 + 1))] s) (hx : x3 < s.1 29 3) (hy : 0 ≤ x3 → x4 < 1024) : sx_wp true sL sx eX3_of CALL [(5, [0, 2, 3, 4])] Q R 400 5 [(0, .inr (.inl 29)), (2, .inl a1), (3, .inl x3), (4, .inl x4)] [] s := by
  have h0 := hI.fld 29 3 (by decide) rfl
  have zzy : sx_w true (x4 + 1) = x4 + 1 := px_wid (by omega) (by omega)
  repeat' (first | (with_reducible (rintro _ rfl)) | (with_reducible intro _) | (refine And.intro ?_ ?_))
  all_goals (try dsimp only at *)
  all_goals (first | trivial | assumption | omega | (exfalso; omega) | (exact hK1 (by omega)) | (exact hK2 (by omega) (by omega) (by omega)) | (have zz9 := hQ (by omega) (by omega) (by omega); rw [← zzy] at zz9; exact zz9) | skip)
theorem w_dv_va5 {CALL : sx_Ca} {sL : Nat} {sx : Nat → Int32} {Q : Nat → sx_L → sx_S → Prop} {R : Int → sx_S → Prop} {s : sx_S} {a1 x3 x4 : Int} (hI : cx_I s) (q1 : -2147483648 ≤ a1 ∧ a1 ≤ 2147483647) (q3 : -2147483648 ≤ x3 ∧ x3 ≤ 2147483647) (q4 : 0 ≤ x4 ∧ x4 ≤ 1024) (hK1 : x3 < 0 → R (-1) s) (hK2 : 0 ≤ x3 → x3 < s.1 29 3 → s.2.1 31 x3.toNat = a1 → R (s.2.1 30 x3.toNat) s) (hQ : 0 ≤ x3 → x3 < s.1 29 3 → s.2.1 31 x3.toNat ≠ a1 → Q 5 [(0, .inr (.inl 29)), (2, .inl a1), (3, .inl (s.2.1 32 x3.toNat)), (4, .inl (x4 + 1))] s) (hx : x3 < s.1 29 3) (hy : 0 ≤ x3 → x4 < 1024) : sx_wp true sL sx eX3_variableAt CALL [(5, [0, 2, 3, 4])] Q R 400 5 [(0, .inr (.inl 29)), (2, .inl a1), (3, .inl x3), (4, .inl x4)] [] s := by
  have h0 := hI.fld 29 3 (by decide) rfl
  have zzy : sx_w true (x4 + 1) = x4 + 1 := px_wid (by omega) (by omega)
  repeat' (first | (with_reducible (rintro _ rfl)) | (with_reducible intro _) | (refine And.intro ?_ ?_))
  all_goals (try dsimp only at *)
  all_goals (first | trivial | assumption | omega | (exfalso; omega) | (exact hK1 (by omega)) | (exact hK2 (by omega) (by omega) (by omega)) | (have zz9 := hQ (by omega) (by omega) (by omega); rw [← zzy] at zz9; exact zz9) | skip)

theorem w_dv_of0 {CALL : sx_Ca} {sL : Nat} {sx : Nat → Int32} {Q : Nat → sx_L → sx_S → Prop} {R : Int → sx_S → Prop} {s : sx_S} {a0 a1 : Int} (hI : cx_I s) (q0 : -2147483648 ≤ a0 ∧ a0 ≤ 2147483647) (q1 : -2147483648 ≤ a1 ∧ a1 ≤ 2147483647) (hQ : Q 5 [(0, .inr (.inl 29)), (2, .inl a1), (3, .inl a0), (4, .inl 0)] s) : sx_wp true sL sx eX3_of CALL [(5, [0, 2, 3, 4])] Q R 400 0 (sx_argsF 0 [.inr (.inl 29), .inl a0, .inl a1]) [] s := by
  repeat' (first | (with_reducible (rintro _ rfl)) | (with_reducible intro _) | (refine And.intro ?_ ?_))
  all_goals (try dsimp only at *)
  all_goals (first | trivial | assumption | omega | skip)
theorem c_dv_of {sL : Nat} {sx : Nat → Int32} (hsL : sL ≤ 3072) (d : Nat) (hd : 2 ≤ d) : ∀ (a0 a1 hi : Int) (c : List (Int × Int)) (s : sx_S) (K : Int → sx_S → Prop), cx_I s → (-2147483648 ≤ a1 ∧ a1 ≤ 2147483647) → dv_c s c hi a0 → hi ≤ s.1 29 3 → K (dv_lk c a1) s → sx_C sL sx d 47 [.inr (.inl 29), .inl a0, .inl a1] s K := by
  intro a0 a1 hi c s K hI p1 hc hh hK
  have h0 := hI.fld 29 3 (by decide) rfl
  obtain ⟨d, rfl⟩ : ∃ e, d = e + 2 := ⟨d - 2, by omega⟩
  have r0 := dv_ch_rng hc
  refine sx_methL (wr := true) (n := 400) (n' := 400) (stop := [(5, [0, 2, 3, 4])]) (fun nn pc ls u => pc = 5 ∧ u = s ∧ ∃ (x3 x4 hi' : Int) (r : List (Int × Int)), ls = [(0, .inr (.inl 29)), (2, .inl a1), (3, .inl x3), (4, .inl x4)] ∧ dv_c s r hi' x3 ∧ hi' ≤ s.1 29 3 ∧ dv_lk r a1 = dv_lk c a1 ∧ (0 ≤ x4 ∧ x4 + hi' ≤ 1024) ∧ (0 ≤ hi') ∧ nn = r.length) hsL (e := eX3_of) rfl ?_ ?_
  · exact w_dv_of0 hI (by omega) p1 ⟨_, rfl, rfl, a0, 0, s.1 29 3, c, rfl, dv_ch_hi hh hc, by omega, rfl, by omega, by omega, rfl⟩
  · rintro nn pc ls u ⟨rfl, rfl, x3, x4, hi', r, rfl, i1, i2, i3, i4, i5, rfl⟩
    have r3 := dv_ch_rng i1
    cases r with
    | nil =>
      have e3 : x3 = -1 := i1
      refine w_dv_of5 hI p1 (by omega) (by omega) (fun _ => ?_) (fun h => absurd h (by omega)) (fun h => absurd h (by omega)) (by omega) (fun h => absurd h (by omega))
      have i3' : (-1 : Int) = dv_lk c a1 := i3
      rw [i3']
      exact hK
    | cons p r =>
      obtain ⟨⟨q1, q2⟩, ⟨q3, q4⟩, q5⟩ := i1
      have i3' : (if p.1 = a1 then p.2 else dv_lk r a1) = dv_lk c a1 := i3
      refine w_dv_of5 hI p1 (by omega) (by omega) (fun h => absurd h (by omega)) (fun _ _ h => ?_) (fun _ _ h => ?_) (by omega) (fun _ => by omega)
      · rw [if_pos (q3.symm.trans h)] at i3'
        rw [q4, i3']
        exact hK
      · rw [if_neg (fun q => h (q3.trans q))] at i3'
        have r5 := dv_ch_rng q5
        exact ⟨_, by rw [List.length_cons]; omega, rfl, rfl, _, _, x3, r, rfl, q5, by omega, i3', by omega, by omega, rfl⟩

theorem w_dv_va0 {CALL : sx_Ca} {sL : Nat} {sx : Nat → Int32} {Q : Nat → sx_L → sx_S → Prop} {R : Int → sx_S → Prop} {s : sx_S} {a0 a1 : Int} (hI : cx_I s) (q0 : -2147483648 ≤ a0 ∧ a0 ≤ 2147483647) (q1 : -2147483648 ≤ a1 ∧ a1 ≤ 2147483647) (hQ : Q 5 [(0, .inr (.inl 29)), (2, .inl a1), (3, .inl a0), (4, .inl 0)] s) : sx_wp true sL sx eX3_variableAt CALL [(5, [0, 2, 3, 4])] Q R 400 0 (sx_argsF 0 [.inr (.inl 29), .inl a0, .inl a1]) [] s := by
  repeat' (first | (with_reducible (rintro _ rfl)) | (with_reducible intro _) | (refine And.intro ?_ ?_))
  all_goals (try dsimp only at *)
  all_goals (first | trivial | assumption | omega | skip)
theorem c_dv_va {sL : Nat} {sx : Nat → Int32} (hsL : sL ≤ 3072) (d : Nat) (hd : 2 ≤ d) : ∀ (a0 a1 hi : Int) (c : List (Int × Int)) (s : sx_S) (K : Int → sx_S → Prop), cx_I s → (-2147483648 ≤ a1 ∧ a1 ≤ 2147483647) → dv_c s c hi a0 → hi ≤ s.1 29 3 → K (dv_va c a1) s → sx_C sL sx d 48 [.inr (.inl 29), .inl a0, .inl a1] s K := by
  intro a0 a1 hi c s K hI p1 hc hh hK
  have h0 := hI.fld 29 3 (by decide) rfl
  obtain ⟨d, rfl⟩ : ∃ e, d = e + 2 := ⟨d - 2, by omega⟩
  have r0 := dv_ch_rng hc
  refine sx_methL (wr := true) (n := 400) (n' := 400) (stop := [(5, [0, 2, 3, 4])]) (fun nn pc ls u => pc = 5 ∧ u = s ∧ ∃ (x3 x4 hi' : Int) (r : List (Int × Int)), ls = [(0, .inr (.inl 29)), (2, .inl a1), (3, .inl x3), (4, .inl x4)] ∧ dv_c s r hi' x3 ∧ hi' ≤ s.1 29 3 ∧ dv_va r a1 = dv_va c a1 ∧ (0 ≤ x4 ∧ x4 + hi' ≤ 1024) ∧ (0 ≤ hi') ∧ nn = r.length) hsL (e := eX3_variableAt) rfl ?_ ?_
  · exact w_dv_va0 hI (by omega) p1 ⟨_, rfl, rfl, a0, 0, s.1 29 3, c, rfl, dv_ch_hi hh hc, by omega, rfl, by omega, by omega, rfl⟩
  · rintro nn pc ls u ⟨rfl, rfl, x3, x4, hi', r, rfl, i1, i2, i3, i4, i5, rfl⟩
    have r3 := dv_ch_rng i1
    cases r with
    | nil =>
      have e3 : x3 = -1 := i1
      refine w_dv_va5 hI p1 (by omega) (by omega) (fun _ => ?_) (fun h => absurd h (by omega)) (fun h => absurd h (by omega)) (by omega) (fun h => absurd h (by omega))
      have i3' : (-1 : Int) = dv_va c a1 := i3
      rw [i3']
      exact hK
    | cons p r =>
      obtain ⟨⟨q1, q2⟩, ⟨q3, q4⟩, q5⟩ := i1
      have i3' : (if p.2 = a1 then p.1 else dv_va r a1) = dv_va c a1 := i3
      refine w_dv_va5 hI p1 (by omega) (by omega) (fun h => absurd h (by omega)) (fun _ _ h => ?_) (fun _ _ h => ?_) (by omega) (fun _ => by omega)
      · rw [if_pos (q4.symm.trans h)] at i3'
        rw [q3, i3']
        exact hK
      · rw [if_neg (fun q => h (q4.trans q))] at i3'
        have r5 := dv_ch_rng q5
        exact ⟨_, by rw [List.length_cons]; omega, rfl, rfl, _, _, x3, r, rfl, q5, by omega, i3', by omega, by omega, rfl⟩

/-- a link more -/
def dv_w1 (a0 a1 a2 : Int) (s t : sx_S) : Prop := True → t.1 29 3 = s.1 29 3 + 1 ∧ (∀ j : Nat, (j : Int) ≠ s.1 29 3 → t.2.1 30 j = s.2.1 30 j ∧ t.2.1 31 j = s.2.1 31 j ∧ t.2.1 32 j = s.2.1 32 j) ∧ (t.2.1 30 (s.1 29 3).toNat = a1 ∧ t.2.1 31 (s.1 29 3).toNat = a2 ∧ t.2.1 32 (s.1 29 3).toNat = a0)
theorem w_dv_with {CALL : sx_Ca} {sL : Nat} {sx : Nat → Int32} {Q : Nat → sx_L → sx_S → Prop} {R : Int → sx_S → Prop} {s : sx_S} {a0 a1 a2 : Int} (hI : cx_I s) (hN : s.1 29 3 < 1024) (p0 : -2147483648 ≤ a0 ∧ a0 ≤ 2147483647) (p1 : -2147483648 ≤ a1 ∧ a1 ≤ 2147483647) (p2 : -2147483648 ≤ a2 ∧ a2 ≤ 2147483647) (hK : ∀ t, cx_I t → cx_F [(29, 32)] s t → dv_w1 a0 a1 a2 s t → R (s.1 29 3) t) : sx_wp true sL sx eX3_with CALL [] Q R 400 0 (sx_argsF 0 [.inr (.inl 29), .inl a0, .inl a1, .inl a2]) [] s := by
  have h0 := hI.fld 29 3 (by decide) rfl
  have m3 : dv_w1 a0 a1 a2 s (sx_uf s.1 29 3 (s.1 29 3 + 1), sx_ua (sx_ua (sx_ua s.2.1 30 (s.1 29 3).toNat a1) 31 (s.1 29 3).toNat a2) 32 (s.1 29 3).toNat a0, s.2.2) := fun _ => by
    refine ⟨by dsimp only; exact px_us _ _ _ _, fun j hj => ?_, ?_⟩
    · have hj2 : j ≠ (s.1 29 3).toNat := by omega
      simp [sx_ua_if, hj2]
    · simp [sx_ua_if]
  have m1 : cx_I (sx_uf s.1 29 3 (s.1 29 3 + 1), sx_ua (sx_ua (sx_ua s.2.1 30 (s.1 29 3).toNat a1) 31 (s.1 29 3).toNat a2) 32 (s.1 29 3).toNat a0, s.2.2) := cx_I_uf rfl rfl (cx_I_ua rfl rfl (cx_I_ua rfl rfl (cx_I_ua rfl rfl hI (by omega) (by omega)) (by omega) (by omega)) (by omega) (by omega)) (by omega) (by omega)
  have zz1 := hK _ m1 (cx_F_uf rfl (cx_F_ua rfl (cx_F_ua rfl (cx_F_ua rfl (cx_F_refl _ _))))) m3
  have zzu : sx_w true (s.1 29 3 + 1) = s.1 29 3 + 1 := px_wid (by omega) (by omega)
  have zzv : sx_w true (s.1 29 3 + 1 - 1) = s.1 29 3 := by rw [px_wid (by omega) (by omega)]; omega
  repeat' (first | (with_reducible (rintro _ rfl)) | (with_reducible intro _) | (refine And.intro ?_ ?_))
  all_goals (try dsimp only at *)
  all_goals (first | trivial | assumption | omega | (exfalso; omega) | (show R _ _; simp only [px_us, zzu, zzv]; exact zz1) | (simp only [px_us, zzu, zzv] at *; first | assumption | omega) | (repeat' (first | (with_reducible assumption) | ((with_reducible (change cx_I (sx_uf _ _ _ _, _))); refine cx_I_uf rfl rfl ?_ ?_ ?_) | ((with_reducible (change cx_I (_, sx_ua _ _ _ _, _))); refine cx_I_ua rfl rfl ?_ ?_ ?_) | ((with_reducible (change cx_I (_, sx_ua _ 16 _ _, _))); refine cx_I_ari ?_ ?_ ?_) | ((with_reducible (change cx_I (sx_uf _ 11 6 _, _))); refine cx_I_ufA rfl ?_ ?_ ?_ ?_) | (with_reducible exact cx_F_refl _ _) | ((with_reducible (change cx_F _ _ (sx_uf _ _ _ _, _))); refine cx_F_uf rfl ?_) | ((with_reducible (change cx_F _ _ (_, sx_ua _ _ _ _, _))); refine cx_F_ua rfl ?_) | ((with_reducible (change cx_I (_, sx_cpy _ _ _ _ _ _, _))); refine cx_I_cpy rfl rfl rfl (by decide) ?_) | ((with_reducible (change cx_F _ _ (_, sx_cpy _ _ _ _ _ _, _))); refine cx_F_cpy rfl ?_) | ((with_reducible (change cx_F _ _ _)); refine cx_F_step (by assumption) rfl ?_) | fail)) | skip)
  all_goals (first | trivial | assumption | omega | (simp only [px_us, zzu, zzv] at *; omega) | skip)
theorem c_dv_with {sL : Nat} {sx : Nat → Int32} (hsL : sL ≤ 3072) (d : Nat) (hd : 2 ≤ d) : ∀ (a0 a1 a2 : Int) (s : sx_S) (R : Int → sx_S → Prop), cx_I s → s.1 29 3 < 1024 → (-2147483648 ≤ a0 ∧ a0 ≤ 2147483647) → (-2147483648 ≤ a1 ∧ a1 ≤ 2147483647) → (-2147483648 ≤ a2 ∧ a2 ≤ 2147483647) → (∀ t, cx_I t → cx_F [(29, 32)] s t → dv_w1 a0 a1 a2 s t → R (s.1 29 3) t) → sx_C sL sx d 46 [.inr (.inl 29), .inl a0, .inl a1, .inl a2] s R := by
  intro a0 a1 a2 s R hI hN p0 p1 p2 hK
  obtain ⟨d, rfl⟩ : ∃ e, d = e + 2 := ⟨d - 2, by omega⟩
  exact sx_meth (wr := true) (n := 400) hsL (e := eX3_with) rfl (w_dv_with (Q := fun _ _ _ => False) hI hN p0 p1 p2 hK)
/-- what a link more makes of chains -/
theorem dv_w1_c {a0 a1 a2 hi : Int} {s t : sx_S} {c : List (Int × Int)} (h0 : 0 ≤ s.1 29 3) (h : dv_w1 a0 a1 a2 s t) (hh : hi ≤ s.1 29 3) (hc : dv_c s c hi a0) : dv_c t ((a1, a2) :: c) (t.1 29 3) (s.1 29 3) := by
  obtain ⟨h1, h2, h3, h4, h5⟩ := h trivial
  refine ⟨⟨h0, by omega⟩, ⟨h3, h4⟩, ?_⟩
  rw [h5]
  exact dv_ch_fr (fun j hj => h2 j (by omega)) (dv_ch_hi hh hc)
theorem w_dv_mark {CALL : sx_Ca} {sL : Nat} {sx : Nat → Int32} {Q : Nat → sx_L → sx_S → Prop} {R : Int → sx_S → Prop} {s : sx_S} (hI : cx_I s) (hK : ∀ z : Int, (z = s.1 29 3) → R z s) : sx_wp true sL sx eX3_mark CALL [] Q R 400 0 (sx_argsF 0 [.inr (.inl 29)]) [] s := by
  repeat' (first | (with_reducible intro _) | (refine And.intro ?_ ?_) | (refine hK _ ?_))
  all_goals (try dsimp only)
  repeat' (first | (with_reducible assumption) | ((with_reducible (change cx_I (sx_uf _ _ _ _, _))); refine cx_I_uf rfl rfl ?_ ?_ ?_) | ((with_reducible (change cx_I (_, sx_ua _ _ _ _, _))); refine cx_I_ua rfl rfl ?_ ?_ ?_) | ((with_reducible (change cx_I (_, sx_ua _ 16 _ _, _))); refine cx_I_ari ?_ ?_ ?_) | ((with_reducible (change cx_I (sx_uf _ 11 6 _, _))); refine cx_I_ufA rfl ?_ ?_ ?_ ?_) | (with_reducible exact cx_F_refl _ _) | ((with_reducible (change cx_F _ _ (sx_uf _ _ _ _, _))); refine cx_F_uf rfl ?_) | ((with_reducible (change cx_F _ _ (_, sx_ua _ _ _ _, _))); refine cx_F_ua rfl ?_) | ((with_reducible (change cx_I (_, sx_cpy _ _ _ _ _ _, _))); refine cx_I_cpy rfl rfl rfl (by decide) ?_) | ((with_reducible (change cx_F _ _ (_, sx_cpy _ _ _ _ _ _, _))); refine cx_F_cpy rfl ?_) | ((with_reducible (change cx_F _ _ _)); refine cx_F_step (by assumption) rfl ?_) | fail)
  all_goals (try dsimp only at *)
  all_goals (first | trivial | omega | rfl | (intros; omega) | (intros; rfl) | skip)

theorem c_dv_mark {sL : Nat} {sx : Nat → Int32} (hsL : sL ≤ 3072) (d : Nat) (hd : 2 ≤ d) : ∀ (s : sx_S) (K : Int → sx_S → Prop), cx_I s → (∀ z : Int, (z = s.1 29 3) → K z s) → sx_C sL sx d 44 [.inr (.inl 29)] s K := by
  intro  s K hI  hK
  obtain ⟨d, rfl⟩ : ∃ e, d = e + 2 := ⟨d - 2, by omega⟩
  exact sx_meth (wr := true) (n := 400) hsL (e := eX3_mark) rfl (w_dv_mark (Q := fun _ _ _ => False)  hI  hK)

theorem w_dv_rel {CALL : sx_Ca} {sL : Nat} {sx : Nat → Int32} {Q : Nat → sx_L → sx_S → Prop} {R : Int → sx_S → Prop} {s : sx_S} {a0 : Int} (hI : cx_I s) (p0 : (-2147483648 ≤ a0 ∧ a0 ≤ 2147483647)) (hK : ∀ (z : Int) (t : sx_S), cx_I t → cx_F [(29, 29)] s t → (0 ≤ a0 → a0 ≤ s.1 29 3 → t.1 29 3 = a0) → R z t) : sx_wp true sL sx eX3_release CALL [] Q R 400 0 (sx_argsF 0 [.inr (.inl 29), .inl a0]) [] s := by
  repeat' (first | (with_reducible intro _) | (refine And.intro ?_ ?_) | (refine hK _ _ ?_ ?_ ?_))
  all_goals (try dsimp only)
  repeat' (first | (with_reducible assumption) | ((with_reducible (change cx_I (sx_uf _ _ _ _, _))); refine cx_I_uf rfl rfl ?_ ?_ ?_) | ((with_reducible (change cx_I (_, sx_ua _ _ _ _, _))); refine cx_I_ua rfl rfl ?_ ?_ ?_) | ((with_reducible (change cx_I (_, sx_ua _ 16 _ _, _))); refine cx_I_ari ?_ ?_ ?_) | ((with_reducible (change cx_I (sx_uf _ 11 6 _, _))); refine cx_I_ufA rfl ?_ ?_ ?_ ?_) | (with_reducible exact cx_F_refl _ _) | ((with_reducible (change cx_F _ _ (sx_uf _ _ _ _, _))); refine cx_F_uf rfl ?_) | ((with_reducible (change cx_F _ _ (_, sx_ua _ _ _ _, _))); refine cx_F_ua rfl ?_) | ((with_reducible (change cx_I (_, sx_cpy _ _ _ _ _ _, _))); refine cx_I_cpy rfl rfl rfl (by decide) ?_) | ((with_reducible (change cx_F _ _ (_, sx_cpy _ _ _ _ _ _, _))); refine cx_F_cpy rfl ?_) | ((with_reducible (change cx_F _ _ _)); refine cx_F_step (by assumption) rfl ?_) | fail)
  all_goals (first | trivial | omega | (dsimp only at *; omega) | (simp only [sx_uf_if, sx_ua_if, sx_w_t, true_and, and_true, and_self, and_false, false_and, if_true, if_false, reduceIte] at *; omega) | (subst_vars; rfl) | (subst_vars; decide))

theorem c_dv_rel {sL : Nat} {sx : Nat → Int32} (hsL : sL ≤ 3072) (d : Nat) (hd : 2 ≤ d) : ∀ (a0 : Int) (s : sx_S) (K : Int → sx_S → Prop), cx_I s → (-2147483648 ≤ a0 ∧ a0 ≤ 2147483647) → (∀ (z : Int) (t : sx_S), cx_I t → cx_F [(29, 29)] s t → (0 ≤ a0 → a0 ≤ s.1 29 3 → t.1 29 3 = a0) → K z t) → sx_C sL sx d 45 [.inr (.inl 29), .inl a0] s K := by
  intro a0 s K hI p0 hK
  obtain ⟨d, rfl⟩ : ∃ e, d = e + 2 := ⟨d - 2, by omega⟩
  exact sx_meth (wr := true) (n := 400) hsL (e := eX3_release) rfl (w_dv_rel (Q := fun _ _ _ => False)  hI p0 hK)
