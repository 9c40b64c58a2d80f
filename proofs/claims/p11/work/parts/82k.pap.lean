/-! ===== the reference: papers and what calls it, with what is written ===== -/
theorem w_e_papers_66 {CALL : sx_Ca} {sL : Nat} {sx : Nat → Int32} {Q : Nat → sx_L → sx_S → Prop} {R : Int → sx_S → Prop} {s : sx_S} {a b c e : Int} (hI : cx_I s) (pa : 0 ≤ a ∧ a ≤ 60000) (pb : 0 ≤ b ∧ b ≤ 120000) (pc : 0 ≤ c ∧ c ≤ 400000) (pe : 0 ≤ e ∧ e ≤ 400000) (hK : ∀ z : Int, (-1 ≤ z ∧ z ≤ 4000) → ((4000 < s.1 66 86 ∧ z = -1) ∨ (s.1 66 86 ≤ 4000 ∧ z = s.1 66 86)) → R z (sx_uf (sx_uf (sx_uf (sx_uf s.1 66 50 a) 66 56 b) 66 58 c) 66 71 e, s.2)) : sx_wp true sL sx eX12_papers CALL [(66, [0, 4, 5, 6, 7])] Q R 400 66 [(0, .inr (.inl 66)), (4, .inl a), (5, .inl b), (6, .inl c), (7, .inl e)] [] s := by
  repeat' (first | (with_reducible intro _) | (refine And.intro ?_ ?_) | (refine hK _ ?_ ?_))
  all_goals (try dsimp only)
  repeat' (first | (with_reducible assumption) | ((with_reducible (change cx_I (sx_uf _ _ _ _, _))); refine cx_I_uf rfl rfl ?_ ?_ ?_) | ((with_reducible (change cx_I (_, sx_ua _ _ _ _, _))); refine cx_I_ua rfl rfl ?_ ?_ ?_) | ((with_reducible (change cx_I (_, sx_ua _ 16 _ _, _))); refine cx_I_ari ?_ ?_ ?_) | ((with_reducible (change cx_I (sx_uf _ 11 6 _, _))); refine cx_I_ufA rfl ?_ ?_ ?_ ?_) | (with_reducible exact cx_F_refl _ _) | ((with_reducible (change cx_F _ _ (sx_uf _ _ _ _, _))); refine cx_F_uf rfl ?_) | ((with_reducible (change cx_F _ _ (_, sx_ua _ _ _ _, _))); refine cx_F_ua rfl ?_) | ((with_reducible (change cx_I (_, sx_cpy _ _ _ _ _ _, _))); refine cx_I_cpy rfl rfl rfl (by decide) ?_) | ((with_reducible (change cx_F _ _ (_, sx_cpy _ _ _ _ _ _, _))); refine cx_F_cpy rfl ?_) | ((with_reducible (change cx_F _ _ _)); refine cx_F_step (by assumption) rfl ?_) | ((with_reducible (change rf_f _ _ (sx_uf _ 66 _ _, _))); refine rf_f_uf rfl ?_) | ((with_reducible (change rf_f _ _ _)); exact (fun _ _ => rfl)) | ((with_reducible (change rf_f _ _ (_, sx_ua _ _ _ _, _))); refine rf_f_ua ?_) | ((with_reducible (change rf_f _ _ _)); assumption) | ((with_reducible (change rf_f _ _ _)); refine rf_f_step (by assumption) rfl ?_) | ((with_reducible (change rf_f _ _ _)); refine rf_f_F (by assumption) rfl ?_) | fail)
  all_goals (first | trivial | assumption | omega | (dsimp only at *; omega) | (simp only [sx_w_t] at *; omega) | (subst_vars; omega) | (subst_vars; assumption) | (subst_vars; dsimp only at *; omega) | (subst_vars; dsimp only at *; simp only [sx_w_t] at *; omega) | (simp only [sx_uf_if, sx_ua_if, sx_w_t, true_and, and_true, and_self, and_false, false_and, if_true, if_false, reduceIte] at *; omega) | (subst_vars; simp only [sx_uf_if, sx_ua_if, sx_w_t, true_and, and_true, and_self, and_false, false_and, if_true, if_false, reduceIte] at *; omega) | skip)
section
variable {Ω : Type}
/-- a closed side of an equation, with the unknowns of the text alone -/
def we_RT (E : we_E Ω) (s : sx_S) (g : rf_Gh) (i : Int) : Prop := ∃ (A : rf_N) (x : rf_T), rf_CL s g (fun _ _ => False) A .leaf x [] (1150 + (rf_wh A).1) i (-1) ∧ (∀ v, ¬ (rf_fo (rf_Wd s g.2.2) A).1 v) ∧ vr_t s (we_AR E) A ∧ ∀ m, vx_mt m (vr_1 A) → 0 ≤ m ∧ m < s.1 66 45
/-- there is a solution, and its unknowns are numbered -/
def we_S (E : we_E Ω) (s : sx_S) (g : rf_Gh) : Prop := True → rf_HS s g ∧ we_G E s g ∧ we_N s (wz_al (we_th E) (s.1 66 45).toNat) ∧ s.1 66 89 = 0 ∧ ∀ k : Int, 0 ≤ k → k < s.1 66 47 → we_RT E s g (s.2.1 98 k.toNat) ∧ we_RT E s g (s.2.1 99 k.toNat)
theorem we_RT_up {E : we_E Ω} {s t : sx_S} {g : rf_Gh} (hE : rf_EX (s.1 66 71) (s.1 66 58) s t) (e71 : t.1 66 71 = s.1 66 71) (e58 : t.1 66 58 = s.1 66 58) (e45 : t.1 66 45 = s.1 66 45) (hu : rf_Ub s g) {i : Int} (h : we_RT E s g i) : we_RT E t g i := by
  obtain ⟨A, x, k, hfo, ht, hm⟩ := h
  refine ⟨A, x, rf_CL_up hE (by omega) (by omega) (rf_EG_refl s g) hu k, fun v hv => hfo v ?_, (vr_t_up hE (fun _ _ => rfl)).1 ht, fun m h => by rw [e45]; exact hm m h⟩
  exact (rf_Wd_up hE (fun r q r0 r1 hq => ⟨hq, hu r q r0 r1 hq⟩)).1 ((rf_bn_gn k.1.1).1 _ k.1.2.1) v hv
theorem we_S_up {E : we_E Ω} (hL : we_L E) {s t : sx_S} {g : rf_Gh} (hI : cx_I t) (hE : rf_EX (s.1 66 71) (s.1 66 58) s t) (hN : rf_NC s t) (hO : rf_OD t) (hf : ∀ k, k = 71 ∨ k = 58 ∨ k = 50 ∨ k = 56 ∨ k = 70 ∨ k = 45 ∨ k = 47 ∨ k = 89 ∨ k = 3 → t.1 66 k = s.1 66 k) (ha : ∀ p, 68 ≤ p → p ≤ 99 → t.2.1 p = s.2.1 p) (hn : we_N t (wz_al (we_th E) (s.1 66 45).toNat)) (h : we_S E s g) : we_S E t g := fun _ => by
  obtain ⟨h1, h2, h3, h4, h5⟩ := h trivial
  have e71 := hf 71 (by omega)
  have e58 := hf 58 (by omega)
  have e45 := hf 45 (by omega)
  have e47 := hf 47 (by omega)
  have hM := h1.1.1.2.1
  have hu : rf_Ub s g := fun r q a b c => (hM.1 r a b).2.1 q c
  refine ⟨rf_HS_up hI hE hN hO e71 e58 (hf 50 (by omega)) (hf 56 (by omega)) (hf 70 (by omega)) e45 e47 (ha 98 (by omega) (by omega)) (ha 99 (by omega) (by omega)) h1, we_G_up hL h1.1.1.1 hM hE hN (by omega) ha (hf 3 (by omega)) h2, by rw [e45]; exact hn, by rw [hf 89 (by omega)]; exact h4, fun k k0 k1 => ?_⟩
  obtain ⟨c1, c2⟩ := h5 k k0 (by omega)
  rw [ha 98 (by omega) (by omega), ha 99 (by omega) (by omega)]
  exact ⟨we_RT_up hE e71 e58 e45 hu c1, we_RT_up hE e71 e58 e45 hu c2⟩
/-- what is met in a value is met in its unknowns' -/
theorem we_val_oc {th : Int → rf_N} {AR : Nat → List Int} (hg : ∀ m, vx_on (th m)) {x : Int} : ∀ {A : rf_N} {e : Int → Int} {L : Int}, wz_nn A → wz_oc x (vx_val th AR A e L) → ∃ m, vx_mt m A ∧ wz_oc x (th m)
  | .leaf, _, _, _, h => h.elim
  | .inner j q u F X, e, L, ⟨n1, n2, n3, _⟩, h => by
    have hX : wz_oc x (vx_val th AR X e L) → ∃ m, vx_mt m (.inner j q u F X) ∧ wz_oc x (th m) := fun h => by
      obtain ⟨m, h1, h2⟩ := we_val_oc hg n3 h
      exact ⟨m, Or.inr (Or.inr h1), h2⟩
    have hF : ∀ {e' : Int → Int} {L' : Int}, q.1 ≠ 3 → wz_oc x (vx_val th AR F e' L') → ∃ m, vx_mt m (.inner j q u F X) ∧ wz_oc x (th m) := fun h3 h => by
      obtain ⟨m, h1, h2⟩ := we_val_oc hg (n2 h3) h
      exact ⟨m, Or.inr (Or.inl ⟨h3, h1⟩), h2⟩
    rw [vx_val_in] at h
    by_cases h0 : q.1 = 0
    · rw [if_pos h0, wz_oc_in, if_neg (by decide)] at h
      rcases h with h | h
      · exact hF (by omega) h
      · exact hX h
    · rw [if_neg h0] at h
      by_cases h3 : q.1 = 3
      · rw [if_pos h3, wz_sb_oc (vx_re_on (hg _)), wz_oc_re] at h
        rcases h with h | h
        · exact ⟨q.2, Or.inl ⟨h3, rfl⟩, h⟩
        · exact hX h
      · rw [if_neg h3, wz_oc_in, if_neg (fun c => by
          obtain ⟨c1, c2⟩ := c
          dsimp only at c1 c2
          rw [if_neg (by omega)] at c2
          have := n1 c1
          omega)] at h
        rcases h with h | h
        · exact hF h3 h
        · exact hX h
/-- what papers answers -/
def we_PR (E : we_E Ω) (o0 : Ω) (s : sx_S) (g : rf_Gh) (k eq si z : Int) (t : sx_S) : Prop := ∃ Z : we_A Ω, we_Sp E t Z.2 ∧ ((4000 < t.1 66 86 ∧ z = -1) ∨ (t.1 66 86 ≤ 4000 ∧ z = t.1 66 86)) ∧ ((eq = 0 ∧ Z = (we_W E (vq_lm (rf_aa s k).toNat (we_th E k))).1 0 (wz_al (we_th E) (s.1 66 45).toNat, o0)) ∨ (eq ≠ 0 ∧ ∃ A, rf_no s A (if si = 0 then s.2.1 98 k.toNat else s.2.1 99 k.toNat) ∧ vr_t s (we_AR E) A ∧ (∀ v, ¬ (rf_fo (rf_Wd s g.2.2) A).1 v) ∧ Z = (we_W E (we_V E s A .leaf 0)).1 0 (wz_al (we_th E) (s.1 66 45).toNat, o0)))
def we_PW (E : we_E Ω) (o0 : Ω) (s : sx_S) (g : rf_Gh) (k eq si : Int) (u : sx_S) : Prop := we_N u (wz_al (we_th E) (s.1 66 45).toNat) ∧ ∃ Z : we_A Ω, we_Sp E u Z.2 ∧ ((eq = 0 ∧ Z = (we_W E (vq_lm (rf_aa s k).toNat (we_th E k))).1 0 (wz_al (we_th E) (s.1 66 45).toNat, o0)) ∨ (eq ≠ 0 ∧ ∃ A, rf_no s A (if si = 0 then s.2.1 98 k.toNat else s.2.1 99 k.toNat) ∧ vr_t s (we_AR E) A ∧ (∀ v, ¬ (rf_fo (rf_Wd s g.2.2) A).1 v) ∧ Z = (we_W E (we_V E s A .leaf 0)).1 0 (wz_al (we_th E) (s.1 66 45).toNat, o0)))
theorem c_e_papers {E : we_E Ω} (hL : we_L E) {sL : Nat} {sx : Nat → Int32} (hKE : we_K E sL sx) (hsL : sL ≤ 3072) (d : Nat) (hd : 1620 ≤ d) {o0 : Ω} (h0 : ∀ p : Nat → Int, E.2.1.1 0 p o0) : ∀ (k eq si : Int) (s : sx_S) (g : rf_Gh) (K : Int → sx_S → Prop), we_S E s g → ((eq = 0 ∧ 0 ≤ k ∧ k < s.1 66 45) ∨ (eq = 1 ∧ 0 ≤ k ∧ k < s.1 66 47)) → (-2147483648 ≤ si ∧ si ≤ 2147483647) → (∀ z t, (-1 ≤ z ∧ z ≤ 4000) → rf_PP s t → we_S E t g → we_PR E o0 s g k eq si z t → K z t) → sx_C sL sx d 213 [.inr (.inl 66), .inl k, .inl eq, .inl si] s K := by
  intro k eq si s g K hSe hk psi hK
  obtain ⟨hS, hG, hNa, h89, hRe⟩ := hSe trivial
  obtain ⟨d, rfl⟩ : ∃ e, d = e + 2 := ⟨d - 2, by omega⟩
  obtain ⟨hW, h45, ⟨h50, h56, h71, h58⟩, hR⟩ := hS
  obtain ⟨hW1, hp⟩ := rf_WW_86 hW
  have hI := hW.1.1
  have r45 := hI.fld 66 45 (by decide) rfl
  have r47 := hI.fld 66 47 (by decide) rfl
  have r50 := hI.fld 66 50 (by decide) rfl
  have r56 := hI.fld 66 56 (by decide) rfl
  have r58 := hI.fld 66 58 (by decide) rfl
  have r71 := hI.fld 66 71 (by decide) rfl
  have ef : ∀ q, q ≠ 86 → sx_uf s.1 66 86 0 66 q = s.1 66 q := fun q h1 => by rw [sx_uf_if, if_neg (fun c => h1 c.2)]
  have n50 := ef 50 (by decide)
  have n56 := ef 56 (by decide)
  have n58 := ef 58 (by decide)
  have n61 := ef 61 (by decide)
  have n71 := ef 71 (by decide)
  obtain ⟨hE1, hN1⟩ := rf_WF_EX hp
  have hp0 := hp
  obtain ⟨⟨b1, b2, _⟩, _⟩ := hp0
  have n45 := ef 45 (by decide)
  have hG1 := we_G_WF hL hW hp hG
  have hN1' : we_N (sx_uf s.1 66 86 0, s.2) (wz_al (we_th E) (s.1 66 45).toNat) := we_N_same (ef 79 (by decide)) n61 (fun _ _ => rfl) hNa
  have hS1 : we_Sp E (sx_uf s.1 66 86 0, s.2) o0 := by
    show E.2.1.1 (sx_uf s.1 66 86 0 66 86) (s.2.1 122) o0
    rw [sx_uf_if, if_pos ⟨rfl, rfl⟩]
    exact h0 _
  have hst : ∀ (v T : rf_N) (f : we_A Ω → we_A Ω), (∀ x, wz_oc x v → x ∈ (wz_al (we_th E) (s.1 66 45).toNat).map Prod.fst) → we_J E (f (wz_al (we_th E) (s.1 66 45).toNat, o0)) (fun _ => False) (sx_uf s.1 66 86 0, s.2) v T f := fun v T f hv => ⟨(wz_al (we_th E) (s.1 66 45).toNat, o0), fun _ => False, ⟨hN1', hS1⟩, rfl, fun _ => ⟨fun _ x hx => hv x hx, fun c => absurd ((ef 89 (by decide)).trans h89) c⟩⟩
  refine sx_methL (wr := true) (n := 400) (n' := 400) (stop := [(66, [0, 4, 5, 6, 7])]) (fun ms pc ls u => pc = 66 ∧ ∃ a b c e : Int, ls = [(0, .inr (.inl 66)), (4, .inl a), (5, .inl b), (6, .inl c), (7, .inl e)] ∧ (a = s.1 66 50 ∧ b = s.1 66 56 ∧ c = s.1 66 58 ∧ e = s.1 66 71) ∧ (cx_I u ∧ rf_EX (s.1 66 71) (s.1 66 58) s u ∧ rf_NC s u ∧ rf_OD u) ∧ cx_F [(66, 66), (100, 107), (115, 122)] s u ∧ rf_f [50, 56, 58, 71, 79, 83, 86] s u ∧ we_PW E o0 s g k eq si u) hsL (e := eX12_papers) rfl ?_ ?_
  · have hroot : ∀ i : Int, (eq ≠ 0 ∧ i = if si = 0 then s.2.1 98 k.toNat else s.2.1 99 k.toNat) → we_RT E s g i → ∀ K' : Int → sx_S → Prop, (∀ z t, ((cx_I t ∧ rf_EX (s.1 66 71) (s.1 66 58) s t ∧ rf_NC s t ∧ rf_OD t) ∧ cx_F [(66, 66), (100, 107), (115, 122)] s t ∧ rf_f [50, 56, 58, 71, 79, 83, 86] s t ∧ we_PW E o0 s g k eq si t) → K' z t) → sx_C sL sx (d + 1) 209 [.inr (.inl 66), .inl i, .inl (-1), .inl 0] (sx_uf s.1 66 86 0, s.2) K' := by
      rintro i ⟨heq, hsi⟩ ⟨A, x, hC, hfo, hVt, hmt⟩ K' hK'
      have hu : rf_Ub s g := fun r q h1 h2 h3 => (hW.1.2.1.1 r h1 h2).2.1 q h3
      have hCu := (rf_CL_put (dp := 0) hu hp n71 n58 hC (fun v hv => absurd hv (hfo v)))
      have hA := hC.2.2.1
      have hnn : wz_nn (vr_1 A) := (we_nn we_Hn1).1 _ hC.1.2.1
      have hVo := we_V_ok (E := E) hI hG hVt hnn .leaf 0
      have hVn := we_V_on (E := E) hG hVt .leaf 0
      have hgs : ∀ m, vx_on (we_th E m) := fun m => ((hG trivial).1.2.1 m).1
      have hin : ∀ x, wz_oc x (we_V E s A .leaf 0) → x ∈ (wz_al (we_th E) (s.1 66 45).toNat).map Prod.fst := fun x hx => by
        rw [wz_al_mem]
        obtain ⟨m, m1, m2⟩ := we_val_oc hgs hnn (wz_oc_re.mp hx)
        have := hmt m m1
        exact ⟨m, by omega, m2⟩
      have eV : we_V E (sx_uf s.1 66 86 0, s.2) A .leaf 0 = we_V E s A .leaf 0 := (we_V_eq (E := E) n58 (hG trivial).2.2.2.2.2.1 (fun _ _ => rfl)).1
      refine c_e_write hL hKE hsL 1450 (d + 1) (by omega) _ (fun _ => False) (fun _ _ => False) A .leaf x [] (1150 + (rf_wh A).1) 1450 i (-1) 0 _ _ _ g K' hW1 hCu.1 (Or.inr ⟨rfl, by omega⟩) (by omega) hCu.2 (by omega) (by dsimp only; omega) (by dsimp only; omega) hG1 ((vr_t_up hE1 (fun _ _ => rfl)).1 hVt) (by rw [eV]; exact hst _ _ _ hin) (fun z t c1 c2 c3 c4 c5 c6 => hK' z t ?_)
      obtain ⟨hE2, hN2⟩ := rf_WF_EX c2
      obtain ⟨⟨x1, x2, x3⟩, _, x8, x9, _⟩ := c2
      obtain ⟨⟨y1, y2⟩, _⟩ := c6 trivial
      rw [we_W_acc hVo hVn, wz_go_sub hin] at y1
      exact ⟨⟨c1, rf_EX_trans hE2 hE1 (by dsimp only; omega) (by dsimp only; omega), ⟨hN2.1.trans hN1.1, fun j hj => (hN2.2 j (by rw [hN1.1]; exact hj)).trans (hN1.2 j hj)⟩, c3⟩, cx_F_step x1 rfl (cx_F_step b1 rfl (cx_F_refl _ _)), rf_f_step x2 rfl (rf_f_step b2 rfl (rf_f_refl _ _)), y1, _, y2, Or.inr ⟨heq, A, by rw [← hsi]; exact hC.1.1, hVt, hfo, rfl⟩⟩
    refine w_papers (PW := fun t => (cx_I t ∧ rf_EX (s.1 66 71) (s.1 66 58) s t ∧ rf_NC s t ∧ rf_OD t) ∧ cx_F [(66, 66), (100, 107), (115, 122)] s t ∧ rf_f [50, 56, 58, 71, 79, 83, 86] s t ∧ we_PW E o0 s g k eq si t) hI (by omega) (by omega) psi (fun h1 h2 u hu K' hK' => ?_) (fun h1 h2 u hu K' hK' => ?_) (fun h1 K' hK' => ?_) (fun t ht a b c e ha hb hc he => ⟨0, rfl, a, b, c, e, rfl, ⟨ha, hb, hc, he⟩, ht⟩)
    · rw [hu]
      exact hroot _ ⟨h1, (if_pos h2).symm⟩ (hRe k (by omega) (by omega)).1 K' hK'
    · rw [hu]
      exact hroot _ ⟨h1, (if_neg h2).symm⟩ (hRe k (by omega) (by omega)).2 K' hK'
    · have hin : ∀ x, wz_oc x (we_th E k) → x ∈ (wz_al (we_th E) (s.1 66 45).toNat).map Prod.fst := fun x hx => by
        rw [wz_al_mem]
        exact ⟨k, by omega, hx⟩
      refine c_e_wunk hL hKE hsL (d + 1) (by omega) _ (fun _ => False) k _ _ _ g K' hW1 ⟨by omega, by dsimp only; omega⟩ (by dsimp only; omega) (by dsimp only; omega) (by dsimp only; omega) (by dsimp only; omega) hG1 (hst _ _ _ hin) (fun z t h h6 => hK' z t ?_)
      obtain ⟨⟨x1, x2, x3, x4⟩, ⟨y1, y2⟩, z1, z2, z3, z4, z5⟩ := h
      obtain ⟨⟨v1, v2⟩, _⟩ := h6 trivial
      obtain ⟨⟨_, GS⟩, _, Gok, _⟩ := hG trivial
      rw [we_lm_acc (Gok k (by omega) (by omega)) (GS.1 k).1, wz_go_sub hin] at v1
      exact ⟨⟨x1, rf_EX_trans x2 hE1 (by dsimp only; omega) (by dsimp only; omega), ⟨x3.1.trans hN1.1, fun j hj => (x3.2 j (by rw [hN1.1]; exact hj)).trans (hN1.2 j hj)⟩, x4⟩, cx_F_step y1 rfl (cx_F_step b1 rfl (cx_F_refl _ _)), rf_f_step y2 rfl (rf_f_step b2 rfl (rf_f_refl _ _)), v1, _, v2, Or.inl ⟨h1, rfl⟩⟩
  · rintro ms pc ls u ⟨rfl, a, b, c, e, rfl, ⟨ha, hb, hc, he⟩, ⟨u1, u2, u3, u4⟩, u5, u6, u7, Z, u8, u9⟩
    refine w_e_papers_66 u1 (by omega) (by omega) (by omega) (by omega) (fun z hz hz2 => ?_)
    have hPP := rf_PP_0 u1 u2 u3 u4 u5 u6 (by omega) (by omega) (by omega) (by omega) ha hb hc he
    have o : ∀ q, q ≠ 50 → q ≠ 56 → q ≠ 58 → q ≠ 71 → sx_uf (sx_uf (sx_uf (sx_uf u.1 66 50 a) 66 56 b) 66 58 c) 66 71 e 66 q = u.1 66 q := fun q h1 h2 h3 h4 => by
      rw [sx_uf_if, if_neg (fun c => h4 c.2), sx_uf_if, if_neg (fun c => h3 c.2), sx_uf_if, if_neg (fun c => h2 c.2), sx_uf_if, if_neg (fun c => h1 c.2)]
    obtain ⟨⟨p1, p2, p3, p4⟩, p5, p6⟩ := hPP
    refine hK z _ hz ⟨⟨p1, p2, p3, p4⟩, p5, p6⟩ (we_S_up hL p1 p2 p3 p4 (fun q hq => ?_) (fun p h1 h2 => ((p5 p).1 (fun q hq => by
      simp only [List.mem_cons, List.not_mem_nil, or_false] at hq
      rcases hq with rfl | rfl | rfl <;> (dsimp only; omega))).2) (we_N_same (o 79 (by decide) (by decide) (by decide) (by decide)) (o 61 (by decide) (by decide) (by decide) (by decide)) (fun _ _ => rfl) u7) hSe) ⟨Z, ?_, ?_, u9⟩
    · refine p6 q ?_
      rcases hq with rfl | rfl | rfl | rfl | rfl | rfl | rfl | rfl | rfl <;> rfl
    · show E.2.1.1 (sx_uf (sx_uf (sx_uf (sx_uf u.1 66 50 a) 66 56 b) 66 58 c) 66 71 e 66 86) (u.2.1 122) Z.2
      rw [o 86 (by decide) (by decide) (by decide) (by decide)]
      exact u8
    · show (4000 < sx_uf (sx_uf (sx_uf (sx_uf u.1 66 50 a) 66 56 b) 66 58 c) 66 71 e 66 86 ∧ z = -1) ∨ (sx_uf (sx_uf (sx_uf (sx_uf u.1 66 50 a) 66 56 b) 66 58 c) 66 71 e 66 86 ≤ 4000 ∧ z = sx_uf (sx_uf (sx_uf (sx_uf u.1 66 50 a) 66 56 b) 66 58 c) 66 71 e 66 86)
      rw [o 86 (by decide) (by decide) (by decide) (by decide)]
      exact hz2
theorem c_e_size {E : we_E Ω} (hL : we_L E) {sL : Nat} {sx : Nat → Int32} (hKE : we_K E sL sx) (hsL : sL ≤ 3072) (d : Nat) (hd : 1630 ≤ d) {o0 : Ω} (h0 : ∀ p : Nat → Int, E.2.1.1 0 p o0) : ∀ (k : Int) (s : sx_S) (g : rf_Gh) (K : Int → sx_S → Prop), cx_I s → (-2147483648 ≤ k ∧ k ≤ 2147483647) → (s.1 66 78 ≠ 0 → we_S E s g) → (∀ z t, (-1 ≤ z ∧ z ≤ 4000) → (t = s ∨ (s.1 66 78 ≠ 0 ∧ rf_PP s t ∧ we_S E t g)) → K z t) → sx_C sL sx d 215 [.inr (.inl 66), .inl k] s K := by
  intro k s g K hI pk hS hK
  obtain ⟨d, rfl⟩ : ∃ e, d = e + 2 := ⟨d - 2, by omega⟩
  refine sx_meth (wr := true) (n := 400) hsL (e := eX12_size) rfl (w_size (Q := fun _ _ _ => False) (PP := fun z t => (-1 ≤ z ∧ z ≤ 4000) ∧ s.1 66 78 ≠ 0 ∧ rf_PP s t ∧ we_S E t g) hI pk (fun h1 h2 K' hK' => c_e_papers hL hKE hsL (d + 1) (by omega) h0 k 0 0 s g K' (hS h1) (Or.inl ⟨rfl, h2⟩) (by omega) (fun z t hz hp hs _ => hK' z t ⟨hz, h1, hp, hs⟩)) (fun z t h => hK z t h.1 (Or.inr h.2)) (hK (-1) s (by omega) (Or.inl rfl)))
theorem c_e_letter {E : we_E Ω} (hL : we_L E) {sL : Nat} {sx : Nat → Int32} (hKE : we_K E sL sx) (hsL : sL ≤ 3072) (d : Nat) (hd : 1640 ≤ d) {o0 : Ω} (h0 : ∀ p : Nat → Int, E.2.1.1 0 p o0) : ∀ (k i : Int) (s : sx_S) (g : rf_Gh) (K : Int → sx_S → Prop), cx_I s → (-2147483648 ≤ k ∧ k ≤ 2147483647) → (-2147483648 ≤ i ∧ i ≤ 2147483647) → (s.1 66 78 ≠ 0 → we_S E s g) → (∀ z t, (-2147483648 ≤ z ∧ z ≤ 2147483647) → (t = s ∨ (s.1 66 78 ≠ 0 ∧ rf_PP s t ∧ we_S E t g)) → K z t) → sx_C sL sx d 216 [.inr (.inl 66), .inl k, .inl i] s K := by
  intro k i s g K hI pk pi hS hK
  obtain ⟨d, rfl⟩ : ∃ e, d = e + 2 := ⟨d - 2, by omega⟩
  refine sx_meth (wr := true) (n := 400) hsL (e := eX12_letter) rfl (w_letter (Q := fun _ _ _ => False) (PS := fun z t => (-1 ≤ z ∧ z ≤ 4000) ∧ (t = s ∨ (s.1 66 78 ≠ 0 ∧ rf_PP s t ∧ we_S E t g))) pi (fun K' hK' => c_e_size hL hKE hsL (d + 1) (by omega) h0 k s g K' hI pk hS (fun z t hz hp => hK' z t ⟨hz, hp⟩)) (fun z t h => ⟨?_, h.1⟩) (fun z t h w hw => hK w t hw h.2))
  rcases h.2 with rfl | h3
  · exact hI
  · exact h3.2.1.1.1
theorem c_e_side {E : we_E Ω} (hL : we_L E) {sL : Nat} {sx : Nat → Int32} (hKE : we_K E sL sx) (hsL : sL ≤ 3072) (d : Nat) (hd : 1630 ≤ d) {o0 : Ω} (h0 : ∀ p : Nat → Int, E.2.1.1 0 p o0) : ∀ (k i : Int) (s : sx_S) (g : rf_Gh) (K : Int → sx_S → Prop), cx_I s → (-2147483648 ≤ k ∧ k ≤ 2147483647) → (-2147483648 ≤ i ∧ i ≤ 2147483647) → (s.1 66 78 ≠ 0 → we_S E s g) → (∀ z t, (-1 ≤ z ∧ z ≤ 4000) → (t = s ∨ (s.1 66 78 ≠ 0 ∧ rf_PP s t ∧ we_S E t g)) → K z t) → sx_C sL sx d 217 [.inr (.inl 66), .inl k, .inl i] s K := by
  intro k i s g K hI pk pi hS hK
  obtain ⟨d, rfl⟩ : ∃ e, d = e + 2 := ⟨d - 2, by omega⟩
  refine sx_meth (wr := true) (n := 400) hsL (e := eX12_side) rfl (w_side (Q := fun _ _ _ => False) (PP := fun z t => (-1 ≤ z ∧ z ≤ 4000) ∧ s.1 66 78 ≠ 0 ∧ rf_PP s t ∧ we_S E t g) hI pk pi (fun h1 h2 h3 K' hK' => c_e_papers hL hKE hsL (d + 1) (by omega) h0 k 1 i s g K' (hS h1) (Or.inr ⟨rfl, h2⟩) pi (fun z t hz hp hs _ => hK' z t ⟨hz, h1, hp, hs⟩)) (fun z t h => hK z t h.1 (Or.inr h.2)) (hK (-1) s (by omega) (Or.inl rfl)))
end
