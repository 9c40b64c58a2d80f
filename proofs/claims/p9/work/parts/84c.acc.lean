/-! ===== the desk's load: the roots of the unknowns ===== -/
/-- the root of unknown k -/
def dw_r1 (M : List (Int × qx_T)) (k : Nat) (u : sx_S) (w : Int) : Prop := True → ∃ (W : rf_N) (p : Int × qx_T), M[k]? = some p ∧ (W ≠ .leaf ∧ dz_T 0 u W w) ∧ (dl_nb 0 (u.1 11 8) W ∧ vx_sg W) ∧ ∀ AR, dl_ar AR W → vl_c3 (dl_TV u) AR p.2 W (k : Int) [] []
def dw_ro (M : List (Int × qx_T)) (m : Nat) (u : sx_S) : Prop := True → ∀ k : Nat, k < m → dw_r1 M k u (u.2.1 25 k)
theorem dw_r1_mono {M : List (Int × qx_T)} {k : Nat} {u t : sx_S} {w : Int} (hf : dz_fr (fun j => (j : Int) < u.1 11 6) u t) (h8 : u.1 11 8 ≤ t.1 11 8 ∧ ∀ j : Nat, (j : Int) < u.1 11 8 → t.2.1 17 j = u.2.1 17 j) (hu : dx_tu u t) (h : dw_r1 M k u w) : dw_r1 M k t w := fun _ => by
  obtain ⟨W, p, h1, ⟨h2, h3⟩, ⟨h4, h5⟩, h6⟩ := h trivial
  refine ⟨W, p, h1, ⟨h2, dz_T_fr h3 hf (dz_T_lt h3)⟩, ⟨dl_nb_mono (Int.le_refl _) h8.1 h4, h5⟩, fun AR hA => vl_c3_mono (fun v T hv => ?_) (h6 AR hA)⟩
  obtain ⟨a1, a2, a3⟩ := hv
  refine ⟨a1, by have := h8.1; omega, ?_⟩
  rw [h8.2 v.toNat (by omega)]
  exact dx_is_up a3 hu
theorem dw_ro_mono {M : List (Int × qx_T)} {m : Nat} {u t : sx_S} (hf : dz_fr (fun j => (j : Int) < u.1 11 6) u t) (h8 : u.1 11 8 ≤ t.1 11 8 ∧ ∀ j : Nat, (j : Int) < u.1 11 8 → t.2.1 17 j = u.2.1 17 j) (hu : dx_tu u t) (h25 : ∀ j : Nat, j < m → t.2.1 25 j = u.2.1 25 j) (h : dw_ro M m u) : dw_ro M m t := fun _ k hk => by
  rw [h25 k hk]
  exact dw_r1_mono hf h8 hu (h trivial k hk)
theorem w_aw_134 {CALL : sx_Ca} {sL : Nat} {sx : Nat → Int32} {Q : Nat → sx_L → sx_S → Prop} {R : Int → sx_S → Prop} {G1 : Int → sx_S → Prop} {G2 : Int → sx_S → Int → Prop} {G3 : Int → sx_S → Prop} (h_dz_totM : ∀ (s : sx_S) (K : Int → sx_S → Prop), cx_I s → (∀ z : Int, (z = s.1 22 2) → K z s) → CALL 52 [.inr (.inl 22)] s K) {s : sx_S} {x1 x2 : Int} (hI : cx_I s) (q1 : x1 = 0 ∨ x1 = 1) (q2 : 0 ≤ x2 ∧ x2 ≤ 5) (h_nw : x2 < s.1 22 2 → ∀ K : Int → sx_S → Prop, (∀ z t, G1 z t → K z t) → CALL 88 [.inr (.inl 11), .inl 3, .inl x2] s K) (h_nt : ∀ z t, G1 z t → ∀ K : Int → sx_S → Prop, (∀ ty, G2 z t ty → K ty t) → CALL 56 [.inr (.inl 22), .inl x2] t K) (h_cp : ∀ z t ty, G1 z t → G2 z t ty → ∀ K : Int → sx_S → Prop, (∀ w u, G3 w u → K w u) → CALL 97 [.inr (.inl 11), .inl z, .inl ty, .inl 0] t K) (hG1 : ∀ z t, G1 z t → cx_I t ∧ (-1 ≤ z ∧ z ≤ 1024)) (hG3 : ∀ w u, G3 w u → cx_I u ∧ (-1 ≤ w ∧ w ≤ 1023)) (hK : (x2 < 5 → s.1 22 2 ≤ x2) → R x1 s) (hQ : x2 < 5 → x2 < s.1 22 2 → ∀ w u, G3 w u → Q 134 [(0, .inr (.inl 18)), (1, .inl x1), (2, .inl (x2 + 1))] (u.1, sx_ua u.2.1 25 x2.toNat w, u.2.2)) : sx_wp true sL sx eX1_accepts CALL [(47, [0, 1, 2]), (134, [0, 1, 2])] Q R 400 134 [(0, .inr (.inl 18)), (1, .inl x1), (2, .inl x2)] [] s := by
  have zzy : sx_w true (x2 + 1) = x2 + 1 := px_wid (by omega) (by omega)
  rw [← zzy] at hQ
  have hm := hI.fld 22 2 (by decide) rfl
  repeat' (first | (with_reducible (rintro _ rfl)) | (with_reducible intro _) | (refine And.intro ?_ ?_) | (refine h_nw (by omega) _ (fun zzz zzt zzg => ?_)) | (refine h_nt _ _ (by assumption) _ (fun zzy zzh => ?_)) | (refine h_cp _ _ _ (by assumption) (by assumption) _ (fun zzw zzu zzk => ?_)) | (refine h_dz_totM _ _ ?_ ?_))
  all_goals (try dsimp only at *)
  all_goals (first | trivial | assumption | omega | (exfalso; omega) | (exact hK (by omega)) | (exact hQ (by omega) (by omega) _ _ (by assumption)) | skip)
theorem st_dw_acc {sL : Nat} {sx : Nat → Int32} (hsL : sL ≤ 3072) {d : Nat} (hd : 90 ≤ d) (b : Nat → Int) (n : Int) (h_nw : ∀ (a0 a1 : Int) (s : sx_S) (K : Int → sx_S → Prop), cx_I s → (-2147483648 ≤ a0 ∧ a0 ≤ 2147483647) → (-2147483648 ≤ a1 ∧ a1 ≤ 2147483647) → (∀ (z : Int) (t : sx_S), cx_I t → (t.1 18 10 = s.1 18 10 ∧ t.1 19 2 = s.1 19 2 ∧ t.1 22 2 = s.1 22 2) → (-1 ≤ z ∧ z ≤ 1023) → K z t) → sx_C sL sx (d + 1) 88 [.inr (.inl 11), .inl a0, .inl a1] s K) (h_cw : ∀ (a0 a1 : Int) (s : sx_S) (K : Int → sx_S → Prop), cx_I s → (-1 ≤ a0 ∧ a0 ≤ 1023) → (-2147483648 ≤ a1 ∧ a1 ≤ 2147483647) → (∀ (z : Int) (t : sx_S), cx_I t → (t.1 18 10 = s.1 18 10 ∧ t.1 19 2 = s.1 19 2 ∧ t.1 22 2 = s.1 22 2) → (-1 ≤ z ∧ z ≤ 1023) → K z t) → sx_C sL sx (d + 1) 97 [.inr (.inl 11), .inl a0, .inl a1, .inl 0] s K) : ∀ (l : List ((Int × Int × qx_T) × (px_N × px_N))) (s : sx_S) (R : Int → sx_S → Prop), cx_I s → dz_TN b n s → px_TX (px_K b n) l 0 → (px_ck (px_SN b n) l [] [] 0 → ∀ t, cx_I t → (t.1 19 2 = (px_c3 3 l : Int) ∧ t.1 22 2 = (px_c3 4 l : Int) ∧ t.1 18 10 = (px_c3 5 l : Int)) → (∃ C M, dz_E b n C M t ∧ dl_pr b n (vl_eq l [] []) t ∧ t.1 11 6 ≤ 960 ∧ M = vl_mf l [] ∧ C = vl_kf l [] ∧ dw_ro M M.length t) → R 1 t) → (¬ px_ck (px_SN b n) l [] [] 0 → ∀ t, cx_I t → R 0 t) → sx_C sL sx (d + 2) 11 [.inr (.inl 18)] s R := by
  intro l s R hI hTN pX hK1 hK0
  have i1 : cx_I (sx_uf s.1 8 2 2, s.2) := cx_I_uf rfl rfl hI (by omega) (by omega)
  have i2 : cx_I (sx_uf (sx_uf (sx_uf s.1 8 2 2) 11 6 0) 11 8 0, s.2) := cx_I_uf rfl rfl (cx_I_ufA rfl i1 (by omega) (by omega) (fun j hj => by rw [px_us] at hj; omega)) (by omega) (by omega)
  have i3 : cx_I (sx_uf (sx_uf (sx_uf (sx_uf s.1 8 2 2) 11 6 0) 11 8 0) 19 2 0, s.2) := cx_I_uf rfl rfl i2 (by omega) (by omega)
  have i4 : cx_I (sx_uf (sx_uf (sx_uf (sx_uf (sx_uf s.1 8 2 2) 11 6 0) 11 8 0) 19 2 0) 22 2 0, s.2) := cx_I_uf rfl rfl i3 (by omega) (by omega)
  have i5 : cx_I (sx_uf (sx_uf (sx_uf (sx_uf (sx_uf (sx_uf (sx_uf (sx_uf s.1 8 2 2) 11 6 0) 11 8 0) 19 2 0) 22 2 0) 18 9 0) 18 10 0) 18 11 0, s.2) := cx_I_uf rfl rfl (cx_I_uf rfl rfl (cx_I_uf rfl rfl i4 (by omega) (by omega)) (by omega) (by omega)) (by omega) (by omega)
  have F5 : cx_F [(8, 8), (11, 11), (18, 19), (22, 22)] s ((sx_uf (sx_uf (sx_uf (sx_uf (sx_uf (sx_uf (sx_uf (sx_uf s.1 8 2 2) 11 6 0) 11 8 0) 19 2 0) 22 2 0) 18 9 0) 18 10 0) 18 11 0, s.2) : sx_S) := cx_F_uf rfl (cx_F_uf rfl (cx_F_uf rfl (cx_F_uf rfl (cx_F_uf rfl (cx_F_uf rfl (cx_F_uf rfl (cx_F_uf rfl (cx_F_refl _ _))))))))
  have hE0 : dz_E b n [] [] (sx_uf (sx_uf (sx_uf (sx_uf (sx_uf (sx_uf (sx_uf (sx_uf s.1 8 2 2) 11 6 0) 11 8 0) 19 2 0) 22 2 0) 18 9 0) 18 10 0) 18 11 0, s.2) := fun _ => by
    refine ⟨fun _ => ?_, fun _ => ⟨rfl, fun k hk => absurd hk (Nat.not_lt_zero _)⟩, fun _ => ⟨rfl, fun k hk => absurd hk (Nat.not_lt_zero _)⟩, ⟨fun i j q1 q2 => ?_, by show (2 : Int) ≤ 2; omega⟩, fun q hq => absurd hq List.not_mem_nil, fun q hq => absurd hq List.not_mem_nil⟩
    · obtain ⟨a1, a2, a3⟩ := hTN trivial
      exact ⟨a1, a2, px_TK_F F5 rfl rfl rfl rfl a3⟩
    · have q2' : i < 2 := q2
      omega
  refine sx_methL (wr := true) (n := 400) (n' := 400) (stop := [(47, [0, 1, 2]), (134, [0, 1, 2])]) (fun nn pc ls u => cx_I u ∧ ((pc = 47 ∧ ∃ x1 x2 : Int, ls = [(0, .inr (.inl 18)), (1, .inl x1), (2, .inl x2)] ∧ (0 ≤ x2 ∧ x2 ≤ 240) ∧ ((x1 = 1 ∧ dl_AI b n l x2 u) ∨ (x1 = 0 ∧ ¬ px_ck (px_SN b n) l [] [] 0)) ∧ nn = (500 - x2).toNat) ∨ (pc = 134 ∧ ∃ x1 x2 : Int, ls = [(0, .inr (.inl 18)), (1, .inl x1), (2, .inl x2)] ∧ (0 ≤ x2 ∧ x2 ≤ 5) ∧ ((x1 = 1 ∧ px_ck (px_SN b n) l [] [] 0 ∧ (u.1 19 2 = (px_c3 3 l : Int) ∧ u.1 22 2 = (px_c3 4 l : Int) ∧ u.1 18 10 = (px_c3 5 l : Int)) ∧ ∃ C M, dz_E b n C M u ∧ dl_pr b n (vl_eq l [] []) u ∧ (u.1 11 6 + 20 * (M.length : Int) ≤ 960 + 9 * x2 ∧ u.1 11 8 ≤ 480 + 4 * x2 ∧ x2 ≤ (M.length : Int)) ∧ M = vl_mf l [] ∧ C = vl_kf l [] ∧ dw_ro M x2.toNat u) ∨ (x1 = 0 ∧ ¬ px_ck (px_SN b n) l [] [] 0)) ∧ nn = (5 - x2).toNat))) hsL (e := eX1_accepts) rfl ?_ ?_
  · refine w_ac (Z1 := fun t => t = (sx_uf s.1 8 2 2, s.2)) (Z2 := fun t => t = (sx_uf (sx_uf (sx_uf s.1 8 2 2) 11 6 0) 11 8 0, s.2)) (Z3 := fun t => t = (sx_uf (sx_uf (sx_uf (sx_uf s.1 8 2 2) 11 6 0) 11 8 0) 19 2 0, s.2)) (Z4 := fun t => t = (sx_uf (sx_uf (sx_uf (sx_uf (sx_uf s.1 8 2 2) 11 6 0) 11 8 0) 19 2 0) 22 2 0, s.2)) ?_ ?_ ?_ ?_ ?_
    · exact fun K hK => c_dz_tyc hsL (d + 1) (by omega) s K hI (hK _ rfl)
    · rintro t rfl K hK
      exact c_dz_tec hsL (d + 1) (by omega) _ K i1 (hK _ rfl)
    · rintro t rfl K hK
      exact c_dz_ncC hsL (d + 1) (by omega) _ K i2 (hK _ rfl)
    · rintro t rfl K hK
      exact c_dz_ncM hsL (d + 1) (by omega) _ K i3 (hK _ rfl)
    · rintro u rfl
      exact ⟨_, i5, Or.inl ⟨rfl, 1, 0, rfl, by omega, Or.inl ⟨rfl, fun _ => ⟨⟨[], [], 0, l, hE0, rfl, pX, fun j hj => absurd hj (Nat.not_lt_zero _), Iff.rfl, ⟨Nat.zero_add _, Nat.zero_add _, Nat.zero_add _⟩, ⟨[], rfl, rfl, fun _ k p hk => absurd hk (by simp), rfl, rfl⟩, ⟨rfl, Int.le_refl _, (show (0 : Int) + 20 * ((0 : Nat) : Int) ≤ 4 * 0 by omega), (show (0 : Int) ≤ 2 * 0 by omega), (show (2 : Int) ≤ 2 + 0 by omega)⟩⟩, Int.le_refl _⟩⟩, rfl⟩⟩
  · rintro nn pc ls u ⟨uI, ⟨rfl, x1, x2, rfl, r2, hU, rfl⟩ | ⟨rfl, x1, x2, rfl, r2, hU, rfl⟩⟩
    · rcases hU with ⟨rfl, hU⟩ | ⟨rfl, hU⟩
      · obtain ⟨⟨C, M, e, l', uE, u9, uX, ulv, uck, ucn, ⟨E, uE1, uE2, uE3, uM, uC⟩, u10, u11, u6, u8, ut⟩, hx2⟩ := hU trivial
        have hTK := ((uE trivial).1 trivial).2.2
        have hm := (hTK trivial).1
        have hkd := px_TK_kd hTK u11 ulv
        have r10 := uI.fld 18 10 (by decide) rfl
        have hlt : px_K b n (u.1 18 11).toNat ≠ 0 → u.1 18 11 < u.1 2 5 := fun q => by
          rcases Int.lt_or_le (u.1 18 11) (u.1 2 5) with z | z
          · exact z
          · exact absurd (hkd.2.1 z) q
        refine w_ac_47 (b := b) (n := n) (Z := fun z t => cx_I t ∧ ((z = 1 ∧ dl_AI b n l (x2 + 1) t) ∨ (z = 0 ∧ ¬ px_ck (px_SN b n) l [] [] 0))) (c_dx_kind hsL (d + 1) (by omega) b n) uI (fun _ => ⟨hTK, ulv, u11, by omega⟩) (Or.inr rfl) (by omega) (fun _ q => by have := hlt q; omega) ?_ ?_ ?_ ?_ ?_
        · intro _ k5 K hK
          have hl5 := hlt (by omega)
          cases l' with
          | nil =>
            have : px_K b n (u.1 18 11).toNat = 0 := uX
            omega
          | cons q l' =>
            obtain ⟨c, pI, pX'⟩ := uX
            have hac := px_IT_le pI
            have hnk := px_IT_nk pI u11
            have clv := px_lv_nk ulv u11 hnk (by omega)
            have hcm := (px_TK_kd hTK (show 0 ≤ c by omega) clv).2.2
            rcases pI with ⟨z, _⟩ | ⟨_, t1, e', t2, g, p1, k15, p2, k14, hc, hq⟩
            · omega
            · subst hc
              have l1 := px_TM_le p1
              have l2 := px_TM_le p2
              have hck : px_ck (px_SN b n) (q :: l') C M e ↔ ((u.1 18 10 < 4 ∧ ∃ x, (px_wt (px_SN b n) C M t1).1 [] x ∧ (px_wt (px_SN b n) C M t2).1 [] x) ∧ px_ck (px_SN b n) l' C M (e + 1)) := by
                rw [hq]
                constructor
                · rintro (⟨z, _⟩ | ⟨z, _⟩ | ⟨_, z1, z2, z3⟩)
                  · exact absurd z (by dsimp only; decide)
                  · exact absurd z (by dsimp only; decide)
                  · exact ⟨⟨by omega, z2⟩, z3⟩
                · rintro ⟨⟨z1, z2⟩, z3⟩
                  exact Or.inr (Or.inr ⟨rfl, by omega, z2, z3⟩)
              refine c_dz_eq hsL (d + 1) (by omega) b n C M (u.1 18 11) e' g t1 t2 u K uI rfl u11 k5 p1 k15 p2 k14 uE u9 (px_lv_le clv (by omega)) (by omega) (fun t hok hIT h10 tE tQ => hK 1 t ?_) (fun hno t tI => hK 0 t ⟨tI, Or.inr ⟨rfl, fun z => hno (hck.mp (uck.mp z)).1⟩⟩)
              obtain ⟨t0, t11, t9, t25, t6, t8, tt⟩ := hIT trivial
              have f6 := uI.fld 11 6 (by decide) rfl
              have f8 := uI.fld 11 8 (by decide) rfl
              refine ⟨t0, Or.inl ⟨rfl, fun _ => ⟨⟨C, M, e + 1, l', tE, by omega, by rw [t11]; exact pX', by rw [t11]; exact clv, ?_, ?_, ⟨E ++ [((C, M), (t1, t2))], by rw [uE1, hq, List.append_assoc]; rfl, by rw [List.length_append, uE2]; rfl, dl_pr_EQ (by rw [u10, uE2]) f6.1 f8.1 tQ uE3, by rw [uM, hq]; rfl, by rw [uC, hq]; rfl⟩, ⟨by omega, by omega, by omega, by omega, by omega⟩⟩, by omega⟩⟩⟩
              · rw [uck, hck]
                exact ⟨fun z => z.2, fun z => ⟨hok, z⟩⟩
              · rw [hq] at ucn
                simp only [px_c3, k5] at ucn
                simp at ucn
                try simp only [List.length_append, List.length_singleton]
                omega
        · intro _ k3 K hK
          cases l' with
          | nil =>
            have : px_K b n (u.1 18 11).toNat = 0 := uX
            omega
          | cons q l' =>
            obtain ⟨c, pI, pX'⟩ := uX
            have hac := px_IT_le pI
            have hnk := px_IT_nk pI u11
            have clv := px_lv_nk ulv u11 hnk (by omega)
            have hcm := (px_TK_kd hTK (show 0 ≤ c by omega) clv).2.2
            rcases pI with ⟨_, j1, j2, x, e', pY, k14, hc, hq⟩ | ⟨z, _⟩
            · subst hc
              have l1 := px_TY_le pY
              have hck : px_ck (px_SN b n) (q :: l') C M e ↔ ((C.length < 8 ∧ px_nv (px_SN b n) C (u.1 18 11 + 1) ∧ px_nv (px_SN b n) M (u.1 18 11 + 1) ∧ qx_at x ≤ 5) ∧ px_ck (px_SN b n) l' (C ++ [(u.1 18 11 + 1, x)]) M e) := by
                rw [hq, k3]
                constructor
                · rintro (⟨_, z1, z2, z3, z4, z5⟩ | ⟨z, _⟩ | ⟨z, _⟩)
                  · exact ⟨⟨z1, z2, z3, z4⟩, z5⟩
                  · exact absurd z (by dsimp only; decide)
                  · exact absurd z (by dsimp only; decide)
                · rintro ⟨⟨z1, z2, z3, z4⟩, z5⟩
                  exact Or.inl ⟨rfl, z1, z2, z3, z4, z5⟩
              refine c_dz_declC hsL (d + 1) (by omega) b n C M (u.1 18 11) e' x u K uI rfl u11 j1 j2 (Or.inl k3) pY k14 uE (px_lv_le clv (by omega)) (by omega) (fun t hok hIT h10 tE tF tT => hK 1 t ?_) (fun hno t tI => hK 0 t ⟨tI, Or.inr ⟨rfl, fun z => hno (hck.mp (uck.mp z)).1⟩⟩)
              obtain ⟨t0, t11, t9, t25, t6, t8, tt⟩ := hIT trivial
              refine ⟨t0, Or.inl ⟨rfl, fun _ => ⟨⟨C ++ [(u.1 18 11 + 1, x)], M, e, l', tE, by omega, by rw [t11]; exact pX', by rw [t11]; exact clv, ?_, ?_, ⟨E, by rw [uE1, hq, k3]; rfl, uE2, dl_pr_F tF tT uE3, by rw [uM, hq, k3]; rfl, by rw [uC, hq, k3]; rfl⟩, ⟨by omega, by omega, by omega, by omega, by omega⟩⟩, by omega⟩⟩⟩
              · rw [uck, hck]
                exact ⟨fun z => z.2, fun z => ⟨hok, z⟩⟩
              · rw [hq] at ucn
                simp only [px_c3, k3] at ucn
                simp at ucn
                try simp only [List.length_append, List.length_singleton]
                omega
            · omega
        · intro _ k0 k5 k3 K hK
          cases l' with
          | nil =>
            have : px_K b n (u.1 18 11).toNat = 0 := uX
            omega
          | cons q l' =>
            obtain ⟨c, pI, pX'⟩ := uX
            have hac := px_IT_le pI
            have hnk := px_IT_nk pI u11
            have clv := px_lv_nk ulv u11 hnk (by omega)
            have hcm := (px_TK_kd hTK (show 0 ≤ c by omega) clv).2.2
            rcases pI with ⟨k4, j1, j2, x, e', pY, k14, hc, hq⟩ | ⟨z, _⟩
            · subst hc
              have k4' : px_K b n (u.1 18 11).toNat = 4 := by omega
              have l1 := px_TY_le pY
              have hck : px_ck (px_SN b n) (q :: l') C M e ↔ ((M.length < 5 ∧ px_nv (px_SN b n) C (u.1 18 11 + 1) ∧ px_nv (px_SN b n) M (u.1 18 11 + 1) ∧ qx_at x ≤ 5) ∧ px_ck (px_SN b n) l' C (M ++ [(u.1 18 11 + 1, x)]) e) := by
                rw [hq, k4']
                constructor
                · rintro (⟨z, _⟩ | ⟨_, z1, z2, z3, z4, z5⟩ | ⟨z, _⟩)
                  · exact absurd z (by dsimp only; decide)
                  · exact ⟨⟨z1, z2, z3, z4⟩, z5⟩
                  · exact absurd z (by dsimp only; decide)
                · rintro ⟨⟨z1, z2, z3, z4⟩, z5⟩
                  exact Or.inr (Or.inl ⟨rfl, z1, z2, z3, z4, z5⟩)
              refine c_dz_declM hsL (d + 1) (by omega) b n C M (u.1 18 11) e' x u K uI rfl u11 j1 j2 (Or.inr k4') pY k14 uE (px_lv_le clv (by omega)) (by omega) (fun t hok hIT h10 tE tF tT => hK 1 t ?_) (fun hno t tI => hK 0 t ⟨tI, Or.inr ⟨rfl, fun z => hno (hck.mp (uck.mp z)).1⟩⟩)
              obtain ⟨t0, t11, t9, t25, t6, t8, tt⟩ := hIT trivial
              refine ⟨t0, Or.inl ⟨rfl, fun _ => ⟨⟨C, M ++ [(u.1 18 11 + 1, x)], e, l', tE, by omega, by rw [t11]; exact pX', by rw [t11]; exact clv, ?_, ?_, ⟨E, by rw [uE1, hq, k4']; rfl, uE2, dl_pr_F tF tT uE3, by rw [uM, hq, k4']; rfl, by rw [uC, hq, k4']; rfl⟩, ⟨by omega, by omega, by rw [List.length_append, List.length_singleton, congrFun (tF.same 11 rfl).1 6]; omega, by omega, by omega⟩⟩, by omega⟩⟩⟩
              · rw [uck, hck]
                exact ⟨fun z => z.2, fun z => ⟨hok, z⟩⟩
              · rw [hq] at ucn
                simp only [px_c3, k4'] at ucn
                simp at ucn
                try simp only [List.length_append, List.length_singleton]
                omega
            · omega
        · rintro hx z t ⟨tI, hz⟩
          exact ⟨_, by omega, tI, Or.inl ⟨rfl, z, x2 + 1, rfl, by omega, hz, rfl⟩⟩
        · rintro (q | q)
          · omega
          · cases l' with
            | nil =>
              have z3 : ∀ k, px_c3 k [] = 0 := fun _ => rfl
              rw [z3, z3, z3] at ucn
              have lC := ((uE trivial).2.1 trivial).1
              have lM := ((uE trivial).2.2.1 trivial).1
              exact ⟨5, by omega, uI, Or.inr ⟨rfl, 1, 0, rfl, by omega, Or.inl ⟨rfl, uck.mpr trivial, by omega, C, M, uE, by rw [uE1]; exact (by rw [show vl_eq [] C M = [] from rfl, List.append_nil]; exact uE3), by omega, uM.symm, uC.symm, fun _ _ hk => absurd hk (Nat.not_lt_zero _)⟩, rfl⟩⟩
            | cons p l' =>
              obtain ⟨c, pI, _⟩ := uX
              exact absurd q (px_IT_k pI)
      · exact w_ac_47 (b := b) (n := n) (Z := fun _ _ => False) (c_dx_kind hsL (d + 1) (by omega) b n) uI (fun q => absurd q (by decide)) (Or.inl rfl) (by omega) (fun q => absurd q (by decide)) (fun q => absurd q (by decide)) (fun q => absurd q (by decide)) (fun q => absurd q (by decide)) (fun _ _ _ q => q.elim) (fun _ => ⟨5, by omega, uI, Or.inr ⟨rfl, 0, 0, rfl, by omega, Or.inr ⟨rfl, hU⟩, rfl⟩⟩)
    · rcases hU with ⟨rfl, hck, hc, C, M, uE, uP, ⟨n6, n8, n5⟩, eM, eC, uro⟩ | ⟨rfl, hU⟩
      · obtain ⟨E1, E2, E3, ⟨E4, E5⟩, E6, E7⟩ := uE trivial
        have lM := (E3 trivial).1
        have f6 := uI.fld 11 6 (by decide) rfl
        have m5 : M.length ≤ 5 := by
          rw [eM]
          exact (vl_mf_5 hck (by show 0 ≤ 5; decide) (by decide)).1
        refine w_aw_134 (G1 := fun z t => z = u.1 11 6 ∧ cx_I t ∧ cx_F [(11, 17)] u t ∧ dz_N1 3 x2 (-1) u t ∧ x2 < u.1 22 2) (G2 := fun _ t ty => ∃ p : Int × qx_T, M[x2.toNat]? = some p ∧ dx_is t p.2 ty ∧ qx_at p.2 ≤ 5) (G3 := fun w v => cx_I v ∧ cx_F [(11, 17)] u v ∧ (-1 ≤ w ∧ w ≤ 1023) ∧ dz_fr (fun j => (j : Int) < u.1 11 6) u v ∧ (u.1 11 8 ≤ v.1 11 8 ∧ ∀ j : Nat, (j : Int) < u.1 11 8 → v.2.1 17 j = u.2.1 17 j) ∧ v.1 11 6 ≤ u.1 11 6 + 9 ∧ v.1 11 8 ≤ u.1 11 8 + 4 ∧ dw_r1 M x2.toNat v w) (c_dz_totM hsL (d + 1) (by omega)) uI (Or.inr rfl) r2 (fun hm K hK => ?_) (fun z t hz K hK => ?_) (fun z t ty hz hty K hK => ?_) (fun z t hz => ⟨hz.2.1, by omega⟩) (fun w v hv => ⟨hv.1, hv.2.2.1⟩) (fun hxx => hK1 hck u uI hc ⟨C, M, uE, uP, by omega, eM, eC, by rw [show M.length = x2.toNat by omega]; exact uro⟩) (fun h5 hm w v hv => ?_)
        · exact c_dz_node hsL (d + 1) (by omega) 3 x2 u K uI (by omega) (by omega) (by omega) (fun t t1 t2 t3 => hK _ t ⟨rfl, t1, t2, t3, hm⟩)
        · obtain ⟨_, t1, t2, t3, hm⟩ := hz
          refine c_dz_ntM hsL (d + 1) (by omega) x2 t K t1 (by omega) (fun ty hty => hK ty ?_)
          obtain ⟨e', q1, _, _, q4⟩ := (E3 trivial).2 x2.toNat (by omega)
          have ety := hty (by omega) (by rw [(t2.same 22 rfl).1]; exact hm)
          rw [ety, (t2.same 24 rfl).2]
          exact ⟨e', q1, dz_is_F t2 q4, E7 e' (List.mem_of_getElem? q1)⟩
        · obtain ⟨ez, t1, t2, t3, hm⟩ := hz
          obtain ⟨⟨pn, T⟩, hT0, hT1, hT2⟩ := hty
          dsimp only at hT1 hT2
          obtain ⟨m1, m2, m3, _⟩ := t3 trivial
          have e8 : t.1 8 2 = u.1 8 2 := congrFun (t2.same 8 rfl).1 2
          have Tp := qx_at_pos T
          rw [ez]
          refine c_dl_cp hsL 5 (by omega) (d + 1) (by omega) (u.1 11 6) T (u.1 11 6) ty 0 3 x2 .leaf t K t1 (by decide) (dz_T_new t3 f6.1 (by omega) (by omega)) hT1 (by omega) hT2 (by omega) (by omega) (by show (0 : Int) + 1 ≤ _; omega) (by omega) (by omega) (fun w v W v1 v2 v3 => hK w v ?_)
          obtain ⟨c1, c2, c3, ⟨c4, c5, c6⟩, c7, _, c9⟩ := v3 trivial
          obtain ⟨c10, _, c11, c12⟩ := c9 trivial
          have f8 := uI.fld 11 8 (by decide) rfl
          have hx0 : ((x2.toNat : Nat) : Int) = x2 := by omega
          have hw := dz_T_z c2 c1
          have g6 := v1.fld 11 6 (by decide) rfl
          exact ⟨v1, cx_F_step v2 rfl t2, by omega, dz_fr_t c3 (dz_fr_w (dz_fr_N1 t3) (fun _ q => q)) (fun _ q => q), ⟨by omega, fun j hj => (c7 j (by omega)).trans (congrFun m3 j)⟩, by omega, by omega, fun _ => ⟨W, (pn, T), hT0, ⟨c1, dz_T_lo c2 f6.1⟩, ⟨c10 0 (by omega) (fun q => absurd rfl q), c12⟩, fun AR hA => by rw [hx0]; exact c11 rfl AR [] hA (fun _ h => absurd h List.not_mem_nil)⟩⟩
        · obtain ⟨v1, v2, v3, v4, v5, v6, v7, v8⟩ := hv
          have g : dz_G (u.1 11 6) u v := dz_G_11 v1 v2 E4 v4 v5
          have F3 : cx_F [(18, 18), (25, 26)] v ((v.1, sx_ua v.2.1 25 x2.toNat w, v.2.2) : sx_S) := cx_F_ua rfl (cx_F_refl _ _)
          refine ⟨(5 - (x2 + 1)).toNat, by omega, cx_I_ua rfl rfl v1 (by omega) (by omega), Or.inr ⟨rfl, 1, x2 + 1, rfl, by omega, Or.inl ⟨rfl, hck, ?_, C, M, dz_E_F (dz_E_G uE g) F3, dl_pr_mono (u := u) ?_ ?_ (dx_tu_c ?_ ?_ ?_) (fun j _ => ?_) uP, ?_, eM, eC, ?_⟩, rfl⟩⟩
          · show v.1 19 2 = _ ∧ v.1 22 2 = _ ∧ v.1 18 10 = _
            rw [(v2.same 19 rfl).1, (v2.same 22 rfl).1, (v2.same 18 rfl).1]
            exact hc
          · exact fun _ => ⟨(v4 trivial).1, fun j hj => by
              rw [(F3.same 12 rfl).2, (F3.same 13 rfl).2, (F3.same 14 rfl).2, (F3.same 15 rfl).2, (F3.same 16 rfl).2]
              exact (v4 trivial).2 j hj⟩
          · rw [(F3.same 17 rfl).2]
            exact v5
          · exact congrFun (v2.same 8 rfl).1 2
          · rw [(F3.same 9 rfl).2, (v2.same 9 rfl).2]
          · rw [(F3.same 10 rfl).2, (v2.same 10 rfl).2]
          · show sx_ua v.2.1 25 x2.toNat w 26 j = _
            rw [sx_ua_ne (by decide), (v2.same 26 rfl).2]
          · show v.1 11 6 + _ ≤ _ ∧ v.1 11 8 ≤ _ ∧ _ ≤ _
            omega
          · have tu1 : dx_tu u v := dx_tu_c (congrFun (v2.same 8 rfl).1 2) (v2.same 9 rfl).2 (v2.same 10 rfl).2
            have tu2 : dx_tu v ((v.1, sx_ua v.2.1 25 x2.toNat w, v.2.2) : sx_S) := dx_tu_c rfl (F3.same 9 rfl).2 (F3.same 10 rfl).2
            have fr2 : dz_fr (fun j => (j : Int) < v.1 11 6) v ((v.1, sx_ua v.2.1 25 x2.toNat w, v.2.2) : sx_S) := fun _ => ⟨Int.le_refl _, fun j _ => by
              rw [(F3.same 12 rfl).2, (F3.same 13 rfl).2, (F3.same 14 rfl).2, (F3.same 15 rfl).2, (F3.same 16 rfl).2]
              exact ⟨rfl, rfl, rfl, rfl, rfl⟩⟩
            have h82 : v.1 11 8 ≤ ((v.1, sx_ua v.2.1 25 x2.toNat w, v.2.2) : sx_S).1 11 8 ∧ ∀ j : Nat, (j : Int) < v.1 11 8 → ((v.1, sx_ua v.2.1 25 x2.toNat w, v.2.2) : sx_S).2.1 17 j = v.2.1 17 j := ⟨Int.le_refl _, fun j _ => by rw [(F3.same 17 rfl).2]⟩
            intro _ k hk
            have e25 : ((v.1, sx_ua v.2.1 25 x2.toNat w, v.2.2) : sx_S).2.1 25 k = if k = x2.toNat then w else u.2.1 25 k := by
              show sx_ua v.2.1 25 x2.toNat w 25 k = _
              rw [sx_ua_if, if_pos rfl, (v2.same 25 rfl).2]
            rw [e25]
            by_cases hkx : k = x2.toNat
            · rw [if_pos hkx, hkx]
              exact dw_r1_mono fr2 h82 tu2 v8
            · rw [if_neg hkx]
              exact dw_r1_mono fr2 h82 tu2 (dw_r1_mono v4 v5 tu1 (uro trivial k (by omega)))
      · refine w_ac_134 h_nw h_cw (c_dz_ntw hsL (d + 1) (by omega)) (c_dz_totM hsL (d + 1) (by omega)) uI (Or.inl rfl) r2 (hK0 hU u uI) (fun hx t tI tk => ⟨_, by omega, tI, Or.inr ⟨rfl, 0, x2 + 1, rfl, by omega, Or.inr ⟨rfl, hU⟩, rfl⟩⟩)
