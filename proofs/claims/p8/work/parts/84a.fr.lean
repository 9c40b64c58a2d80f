section
/-! ===== solving leaves what is loaded as it is ===== -/
def dw_fr (s t : sx_S) : Prop := True → dz_fr (fun j => (j : Int) < s.1 11 6) s t ∧ cx_F [(11, 17), (29, 54)] s t
theorem dw_fr_refl (s : sx_S) : dw_fr s s := fun _ => ⟨dz_fr_refl _ s, cx_F_refl _ _⟩
theorem dw_fr_t {s u t : sx_S} (h1 : dw_fr s u) (h2 : dw_fr u t) : dw_fr s t := fun _ => by
  obtain ⟨a1, a2⟩ := h1 trivial
  obtain ⟨b1, b2⟩ := h2 trivial
  refine ⟨dz_fr_t b1 a1 (fun j hj => ?_), cx_F_step b2 rfl a2⟩
  have := (a1 trivial).1
  omega
theorem dw_fr_F {s u : sx_S} {W : List (Nat × Nat)} (h : cx_F W s u) (h0 : cx_F [(11, 17), (29, 54)] s u) (hw : cx_outb W 11 = true ∧ cx_outb W 12 = true ∧ cx_outb W 13 = true ∧ cx_outb W 14 = true ∧ cx_outb W 15 = true ∧ cx_outb W 16 = true) : dw_fr s u := fun _ => ⟨(dv_nf_F (AR := fun _ => []) (s.1 11 6) h hw trivial).1, h0⟩
end
section
/-! ===== the desk's load: the roots of the unknowns ===== -/
/-- the root of unknown k -/
def dw_r1 (M : List (Int × qx_T)) (k : Nat) (u : sx_S) (w : Int) : Prop := True → ∃ (W : rf_N) (p : Int × qx_T), M[k]? = some p ∧ (W ≠ .leaf ∧ dz_T 0 u W w) ∧ (dl_nb 0 (u.1 11 8) W ∧ vx_sg W) ∧ ∀ AR, dl_ar AR W → vl_c3 (dl_TV u) AR p.2 W (k : Int) [] []
def dw_ro (M : List (Int × qx_T)) (m : Nat) (u : sx_S) : Prop := True → ∀ k : Nat, k < m → dw_r1 M k u (u.2.1 25 k)
theorem dw_r1_mono {M : List (Int × qx_T)} {k : Nat} {u t : sx_S} {w : Int} (hf : dz_fr (fun j => (j : Int) < u.1 11 6) u t) (h8 : u.1 11 8 ≤ t.1 11 8 ∧ ∀ j : Nat, (j : Int) < u.1 11 8 → t.2.1 17 j = u.2.1 17 j) (hu : dx_tu u t) (h : dw_r1 M k u w) : dw_r1 M k t w := fun _ => by
  obtain ⟨W, p, h1, ⟨h2, h3⟩, ⟨h4, h5⟩, h6⟩ := h trivial
  refine ⟨W, p, h1, ⟨h2, dz_T_fr h3 hf (dz_T_lt h3)⟩, ⟨dl_nb_mono (Int.le_refl _) h8.1 h4, h5⟩, fun AR hA => vl_c3_mono (fun v T hv => ?_) (h6 AR hA)⟩
  obtain ⟨a1, a2, a3⟩ := hv
  refine ⟨a1, by have := h8.1; omega, ?_⟩
  rw [h8.2 v.toNat (by omega)]
  exact dx_is_up a3 hu
theorem dw_ro_mono {M : List (Int × qx_T)} {m : Nat} {u t : sx_S} (hf : dz_fr (fun j => (j : Int) < u.1 11 6) u t) (h8 : u.1 11 8 ≤ t.1 11 8 ∧ ∀ j : Nat, (j : Int) < u.1 11 8 → t.2.1 17 j = u.2.1 17 j) (hu : dx_tu u t) (h25 : ∀ j : Nat, j < m → t.2.1 25 j = u.2.1 25 j) (h : dw_ro M m u) : dw_ro M m t := fun _ k hk => by
  rw [h25 k hk]
  exact dw_r1_mono hf h8 hu (h trivial k hk)
theorem w_aw_134 {CALL : sx_Ca} {sL : Nat} {sx : Nat → Int32} {Q : Nat → sx_L → sx_S → Prop} {R : Int → sx_S → Prop} {G1 : Int → sx_S → Prop} {G2 : Int → sx_S → Int → Prop} {G3 : Int → sx_S → Prop} (h_dz_totM : ∀ (s : sx_S) (K : Int → sx_S → Prop), cx_I s → (∀ z : Int, (z = s.1 22 2) → K z s) → CALL 52 [.inr (.inl 22)] s K) {s : sx_S} {x1 x2 : Int} (hI : cx_I s) (q1 : x1 = 0 ∨ x1 = 1) (q2 : 0 ≤ x2 ∧ x2 ≤ 5) (h_nw : x2 < s.1 22 2 → ∀ K : Int → sx_S → Prop, (∀ z t, G1 z t → K z t) → CALL 88 [.inr (.inl 11), .inl 3, .inl x2] s K) (h_nt : ∀ z t, G1 z t → ∀ K : Int → sx_S → Prop, (∀ ty, G2 z t ty → K ty t) → CALL 56 [.inr (.inl 22), .inl x2] t K) (h_cp : ∀ z t ty, G1 z t → G2 z t ty → ∀ K : Int → sx_S → Prop, (∀ w u, G3 w u → K w u) → CALL 97 [.inr (.inl 11), .inl z, .inl ty, .inl 0] t K) (hG1 : ∀ z t, G1 z t → cx_I t ∧ (-1 ≤ z ∧ z ≤ 1024)) (hG3 : ∀ w u, G3 w u → cx_I u ∧ (-1 ≤ w ∧ w ≤ 1023)) (hK : (x2 < 5 → s.1 22 2 ≤ x2) → R x1 s) (hQ : x2 < 5 → x2 < s.1 22 2 → ∀ w u, G3 w u → Q 134 [(0, .inr (.inl 18)), (1, .inl x1), (2, .inl (x2 + 1))] (u.1, sx_ua u.2.1 25 x2.toNat w, u.2.2)) : sx_wp true sL sx eX1_accepts CALL [(47, [0, 1, 2]), (134, [0, 1, 2])] Q R 400 134 [(0, .inr (.inl 18)), (1, .inl x1), (2, .inl x2)] [] s := by
  have zzy : sx_w true (x2 + 1) = x2 + 1 := px_wid (by omega) (by omega)
  rw [← zzy] at hQ
  have hm := hI.fld 22 2 (by decide) rfl
  repeat' (first | (with_reducible (rintro _ rfl)) | (with_reducible intro _) | (refine And.intro ?_ ?_) | (refine h_nw (by omega) _ (fun zzz zzt zzg => ?_)) | (refine h_nt _ _ (by assumption) _ (fun zzy zzh => ?_)) | (refine h_cp _ _ _ (by assumption) (by assumption) _ (fun zzw zzu zzk => ?_)) | (refine h_dz_totM _ _ ?_ ?_))
  all_goals (try dsimp only at *)
  all_goals (first | trivial | assumption | omega | (exfalso; omega) | (exact hK (by omega)) | (exact hQ (by omega) (by omega) _ _ (by assumption)) | skip)
theorem st_dw_acc {sL : Nat} {sx : Nat → Int32} (hsL : sL ≤ 3072) {d : Nat} (hd : 90 ≤ d) (b : Nat → Int) (n : Int) (h_nw : ∀ (a0 a1 : Int) (s : sx_S) (K : Int → sx_S → Prop), cx_I s → (-2147483648 ≤ a0 ∧ a0 ≤ 2147483647) → (-2147483648 ≤ a1 ∧ a1 ≤ 2147483647) → (∀ (z : Int) (t : sx_S), cx_I t → (t.1 18 10 = s.1 18 10 ∧ t.1 19 2 = s.1 19 2 ∧ t.1 22 2 = s.1 22 2) → (-1 ≤ z ∧ z ≤ 1023) → K z t) → sx_C sL sx (d + 1) 88 [.inr (.inl 11), .inl a0, .inl a1] s K) (h_cw : ∀ (a0 a1 : Int) (s : sx_S) (K : Int → sx_S → Prop), cx_I s → (-1 ≤ a0 ∧ a0 ≤ 1023) → (-2147483648 ≤ a1 ∧ a1 ≤ 2147483647) → (∀ (z : Int) (t : sx_S), cx_I t → (t.1 18 10 = s.1 18 10 ∧ t.1 19 2 = s.1 19 2 ∧ t.1 22 2 = s.1 22 2) → (-1 ≤ z ∧ z ≤ 1023) → K z t) → sx_C sL sx (d + 1) 97 [.inr (.inl 11), .inl a0, .inl a1, .inl 0] s K) : ∀ (l : List ((Int × Int × qx_T) × (px_N × px_N))) (s : sx_S) (R : Int → sx_S → Prop), cx_I s → dz_TN b n s → px_TX (px_K b n) l 0 → (px_ck (px_SN b n) l [] [] 0 → ∀ t, cx_I t → (t.1 19 2 = (px_c3 3 l : Int) ∧ t.1 22 2 = (px_c3 4 l : Int) ∧ t.1 18 10 = (px_c3 5 l : Int)) → (∃ C M, dz_E b n C M t ∧ dl_pr b n (vl_eq l [] []) t ∧ t.1 11 6 ≤ 960 ∧ M = vl_mf l [] ∧ C = vl_kf l [] ∧ dw_ro M M.length t) → R 1 t) → (¬ px_ck (px_SN b n) l [] [] 0 → ∀ t, cx_I t → R 0 t) → sx_C sL sx (d + 2) 11 [.inr (.inl 18)] s R := by
  intro l s R hI hTN pX hK1 hK0
  have i1 : cx_I (sx_uf s.1 8 2 2, s.2) := cx_I_uf rfl rfl hI (by omega) (by omega)
  have i2 : cx_I (sx_uf (sx_uf (sx_uf s.1 8 2 2) 11 6 0) 11 8 0, s.2) := cx_I_uf rfl rfl (cx_I_ufA rfl i1 (by omega) (by omega) (fun j hj => by rw [px_us] at hj; omega)) (by omega) (by omega)
  have i3 : cx_I (sx_uf (sx_uf (sx_uf (sx_uf s.1 8 2 2) 11 6 0) 11 8 0) 19 2 0, s.2) := cx_I_uf rfl rfl i2 (by omega) (by omega)
  have i4 : cx_I (sx_uf (sx_uf (sx_uf (sx_uf (sx_uf s.1 8 2 2) 11 6 0) 11 8 0) 19 2 0) 22 2 0, s.2) := cx_I_uf rfl rfl i3 (by omega) (by omega)
  have i5 : cx_I (sx_uf (sx_uf (sx_uf (sx_uf (sx_uf (sx_uf (sx_uf (sx_uf s.1 8 2 2) 11 6 0) 11 8 0) 19 2 0) 22 2 0) 18 9 0) 18 10 0) 18 11 0, s.2) := cx_I_uf rfl rfl (cx_I_uf rfl rfl (cx_I_uf rfl rfl i4 (by omega) (by omega)) (by omega) (by omega)) (by omega) (by omega)
  have F5 : cx_F [(8, 8), (11, 11), (18, 19), (22, 22)] s ((sx_uf (sx_uf (sx_uf (sx_uf (sx_uf (sx_uf (sx_uf (sx_uf s.1 8 2 2) 11 6 0) 11 8 0) 19 2 0) 22 2 0) 18 9 0) 18 10 0) 18 11 0, s.2) : sx_S) := cx_F_uf rfl (cx_F_uf rfl (cx_F_uf rfl (cx_F_uf rfl (cx_F_uf rfl (cx_F_uf rfl (cx_F_uf rfl (cx_F_uf rfl (cx_F_refl _ _))))))))
  have hE0 : dz_E b n [] [] (sx_uf (sx_uf (sx_uf (sx_uf (sx_uf (sx_uf (sx_uf (sx_uf s.1 8 2 2) 11 6 0) 11 8 0) 19 2 0) 22 2 0) 18 9 0) 18 10 0) 18 11 0, s.2) := fun _ => by
    refine ⟨fun _ => ?_, fun _ => ⟨rfl, fun k hk => absurd hk (Nat.not_lt_zero _)⟩, fun _ => ⟨rfl, fun k hk => absurd hk (Nat.not_lt_zero _)⟩, ⟨fun i j q1 q2 => ?_, by show (2 : Int) ≤ 2; omega⟩, fun q hq => absurd hq List.not_mem_nil, fun q hq => absurd hq List.not_mem_nil⟩
    · obtain ⟨a1, a2, a3⟩ := hTN trivial
      exact ⟨a1, a2, px_TK_F F5 rfl rfl rfl rfl a3⟩
    · have q2' : i < 2 := q2
      omega
  refine sx_methL (wr := true) (n := 400) (n' := 400) (stop := [(47, [0, 1, 2]), (134, [0, 1, 2])]) (fun nn pc ls u => cx_I u ∧ ((pc = 47 ∧ ∃ x1 x2 : Int, ls = [(0, .inr (.inl 18)), (1, .inl x1), (2, .inl x2)] ∧ (0 ≤ x2 ∧ x2 ≤ 240) ∧ ((x1 = 1 ∧ dl_AI b n l x2 u) ∨ (x1 = 0 ∧ ¬ px_ck (px_SN b n) l [] [] 0)) ∧ nn = (500 - x2).toNat) ∨ (pc = 134 ∧ ∃ x1 x2 : Int, ls = [(0, .inr (.inl 18)), (1, .inl x1), (2, .inl x2)] ∧ (0 ≤ x2 ∧ x2 ≤ 5) ∧ ((x1 = 1 ∧ px_ck (px_SN b n) l [] [] 0 ∧ (u.1 19 2 = (px_c3 3 l : Int) ∧ u.1 22 2 = (px_c3 4 l : Int) ∧ u.1 18 10 = (px_c3 5 l : Int)) ∧ ∃ C M, dz_E b n C M u ∧ dl_pr b n (vl_eq l [] []) u ∧ (u.1 11 6 + 20 * (M.length : Int) ≤ 960 + 9 * x2 ∧ u.1 11 8 ≤ 480 + 4 * x2 ∧ x2 ≤ (M.length : Int)) ∧ M = vl_mf l [] ∧ C = vl_kf l [] ∧ dw_ro M x2.toNat u) ∨ (x1 = 0 ∧ ¬ px_ck (px_SN b n) l [] [] 0)) ∧ nn = (5 - x2).toNat))) hsL (e := eX1_accepts) rfl ?_ ?_
  · refine w_ac (Z1 := fun t => t = (sx_uf s.1 8 2 2, s.2)) (Z2 := fun t => t = (sx_uf (sx_uf (sx_uf s.1 8 2 2) 11 6 0) 11 8 0, s.2)) (Z3 := fun t => t = (sx_uf (sx_uf (sx_uf (sx_uf s.1 8 2 2) 11 6 0) 11 8 0) 19 2 0, s.2)) (Z4 := fun t => t = (sx_uf (sx_uf (sx_uf (sx_uf (sx_uf s.1 8 2 2) 11 6 0) 11 8 0) 19 2 0) 22 2 0, s.2)) ?_ ?_ ?_ ?_ ?_
    · exact fun K hK => c_dz_tyc hsL (d + 1) (by omega) s K hI (hK _ rfl)
    · rintro t rfl K hK
      exact c_dz_tec hsL (d + 1) (by omega) _ K i1 (hK _ rfl)
    · rintro t rfl K hK
      exact c_dz_ncC hsL (d + 1) (by omega) _ K i2 (hK _ rfl)
    · rintro t rfl K hK
      exact c_dz_ncM hsL (d + 1) (by omega) _ K i3 (hK _ rfl)
    · rintro u rfl
      exact ⟨_, i5, Or.inl ⟨rfl, 1, 0, rfl, by omega, Or.inl ⟨rfl, fun _ => ⟨⟨[], [], 0, l, hE0, rfl, pX, fun j hj => absurd hj (Nat.not_lt_zero _), Iff.rfl, ⟨Nat.zero_add _, Nat.zero_add _, Nat.zero_add _⟩, ⟨[], rfl, rfl, fun _ k p hk => absurd hk (by simp), rfl, rfl⟩, ⟨rfl, Int.le_refl _, (show (0 : Int) + 20 * ((0 : Nat) : Int) ≤ 4 * 0 by omega), (show (0 : Int) ≤ 2 * 0 by omega), (show (2 : Int) ≤ 2 + 0 by omega)⟩⟩, Int.le_refl _⟩⟩, rfl⟩⟩
  · rintro nn pc ls u ⟨uI, ⟨rfl, x1, x2, rfl, r2, hU, rfl⟩ | ⟨rfl, x1, x2, rfl, r2, hU, rfl⟩⟩
    · rcases hU with ⟨rfl, hU⟩ | ⟨rfl, hU⟩
      · obtain ⟨⟨C, M, e, l', uE, u9, uX, ulv, uck, ucn, ⟨E, uE1, uE2, uE3, uM, uC⟩, u10, u11, u6, u8, ut⟩, hx2⟩ := hU trivial
        have hTK := ((uE trivial).1 trivial).2.2
        have hm := (hTK trivial).1
        have hkd := px_TK_kd hTK u11 ulv
        have r10 := uI.fld 18 10 (by decide) rfl
        have hlt : px_K b n (u.1 18 11).toNat ≠ 0 → u.1 18 11 < u.1 2 5 := fun q => by
          rcases Int.lt_or_le (u.1 18 11) (u.1 2 5) with z | z
          · exact z
          · exact absurd (hkd.2.1 z) q
        refine w_ac_47 (b := b) (n := n) (Z := fun z t => cx_I t ∧ ((z = 1 ∧ dl_AI b n l (x2 + 1) t) ∨ (z = 0 ∧ ¬ px_ck (px_SN b n) l [] [] 0))) (c_dx_kind hsL (d + 1) (by omega) b n) uI (fun _ => ⟨hTK, ulv, u11, by omega⟩) (Or.inr rfl) (by omega) (fun _ q => by have := hlt q; omega) ?_ ?_ ?_ ?_ ?_
        · intro _ k5 K hK
          have hl5 := hlt (by omega)
          cases l' with
          | nil =>
            have : px_K b n (u.1 18 11).toNat = 0 := uX
            omega
          | cons q l' =>
            obtain ⟨c, pI, pX'⟩ := uX
            have hac := px_IT_le pI
            have hnk := px_IT_nk pI u11
            have clv := px_lv_nk ulv u11 hnk (by omega)
            have hcm := (px_TK_kd hTK (show 0 ≤ c by omega) clv).2.2
            rcases pI with ⟨z, _⟩ | ⟨_, t1, e', t2, g, p1, k15, p2, k14, hc, hq⟩
            · omega
            · subst hc
              have l1 := px_TM_le p1
              have l2 := px_TM_le p2
              have hck : px_ck (px_SN b n) (q :: l') C M e ↔ ((u.1 18 10 < 4 ∧ ∃ x, (px_wt (px_SN b n) C M t1).1 [] x ∧ (px_wt (px_SN b n) C M t2).1 [] x) ∧ px_ck (px_SN b n) l' C M (e + 1)) := by
                rw [hq]
                constructor
                · rintro (⟨z, _⟩ | ⟨z, _⟩ | ⟨_, z1, z2, z3⟩)
                  · exact absurd z (by dsimp only; decide)
                  · exact absurd z (by dsimp only; decide)
                  · exact ⟨⟨by omega, z2⟩, z3⟩
                · rintro ⟨⟨z1, z2⟩, z3⟩
                  exact Or.inr (Or.inr ⟨rfl, by omega, z2, z3⟩)
              refine c_dz_eq hsL (d + 1) (by omega) b n C M (u.1 18 11) e' g t1 t2 u K uI rfl u11 k5 p1 k15 p2 k14 uE u9 (px_lv_le clv (by omega)) (by omega) (fun t hok hIT h10 tE tQ => hK 1 t ?_) (fun hno t tI => hK 0 t ⟨tI, Or.inr ⟨rfl, fun z => hno (hck.mp (uck.mp z)).1⟩⟩)
              obtain ⟨t0, t11, t9, t25, t6, t8, tt⟩ := hIT trivial
              have f6 := uI.fld 11 6 (by decide) rfl
              have f8 := uI.fld 11 8 (by decide) rfl
              refine ⟨t0, Or.inl ⟨rfl, fun _ => ⟨⟨C, M, e + 1, l', tE, by omega, by rw [t11]; exact pX', by rw [t11]; exact clv, ?_, ?_, ⟨E ++ [((C, M), (t1, t2))], by rw [uE1, hq, List.append_assoc]; rfl, by rw [List.length_append, uE2]; rfl, dl_pr_EQ (by rw [u10, uE2]) f6.1 f8.1 tQ uE3, by rw [uM, hq]; rfl, by rw [uC, hq]; rfl⟩, ⟨by omega, by omega, by omega, by omega, by omega⟩⟩, by omega⟩⟩⟩
              · rw [uck, hck]
                exact ⟨fun z => z.2, fun z => ⟨hok, z⟩⟩
              · rw [hq] at ucn
                simp only [px_c3, k5] at ucn
                simp at ucn
                try simp only [List.length_append, List.length_singleton]
                omega
        · intro _ k3 K hK
          cases l' with
          | nil =>
            have : px_K b n (u.1 18 11).toNat = 0 := uX
            omega
          | cons q l' =>
            obtain ⟨c, pI, pX'⟩ := uX
            have hac := px_IT_le pI
            have hnk := px_IT_nk pI u11
            have clv := px_lv_nk ulv u11 hnk (by omega)
            have hcm := (px_TK_kd hTK (show 0 ≤ c by omega) clv).2.2
            rcases pI with ⟨_, j1, j2, x, e', pY, k14, hc, hq⟩ | ⟨z, _⟩
            · subst hc
              have l1 := px_TY_le pY
              have hck : px_ck (px_SN b n) (q :: l') C M e ↔ ((C.length < 8 ∧ px_nv (px_SN b n) C (u.1 18 11 + 1) ∧ px_nv (px_SN b n) M (u.1 18 11 + 1) ∧ qx_at x ≤ 5) ∧ px_ck (px_SN b n) l' (C ++ [(u.1 18 11 + 1, x)]) M e) := by
                rw [hq, k3]
                constructor
                · rintro (⟨_, z1, z2, z3, z4, z5⟩ | ⟨z, _⟩ | ⟨z, _⟩)
                  · exact ⟨⟨z1, z2, z3, z4⟩, z5⟩
                  · exact absurd z (by dsimp only; decide)
                  · exact absurd z (by dsimp only; decide)
                · rintro ⟨⟨z1, z2, z3, z4⟩, z5⟩
                  exact Or.inl ⟨rfl, z1, z2, z3, z4, z5⟩
              refine c_dz_declC hsL (d + 1) (by omega) b n C M (u.1 18 11) e' x u K uI rfl u11 j1 j2 (Or.inl k3) pY k14 uE (px_lv_le clv (by omega)) (by omega) (fun t hok hIT h10 tE tF tT => hK 1 t ?_) (fun hno t tI => hK 0 t ⟨tI, Or.inr ⟨rfl, fun z => hno (hck.mp (uck.mp z)).1⟩⟩)
              obtain ⟨t0, t11, t9, t25, t6, t8, tt⟩ := hIT trivial
              refine ⟨t0, Or.inl ⟨rfl, fun _ => ⟨⟨C ++ [(u.1 18 11 + 1, x)], M, e, l', tE, by omega, by rw [t11]; exact pX', by rw [t11]; exact clv, ?_, ?_, ⟨E, by rw [uE1, hq, k3]; rfl, uE2, dl_pr_F tF tT uE3, by rw [uM, hq, k3]; rfl, by rw [uC, hq, k3]; rfl⟩, ⟨by omega, by omega, by omega, by omega, by omega⟩⟩, by omega⟩⟩⟩
              · rw [uck, hck]
                exact ⟨fun z => z.2, fun z => ⟨hok, z⟩⟩
              · rw [hq] at ucn
                simp only [px_c3, k3] at ucn
                simp at ucn
                try simp only [List.length_append, List.length_singleton]
                omega
            · omega
        · intro _ k0 k5 k3 K hK
          cases l' with
          | nil =>
            have : px_K b n (u.1 18 11).toNat = 0 := uX
            omega
          | cons q l' =>
            obtain ⟨c, pI, pX'⟩ := uX
            have hac := px_IT_le pI
            have hnk := px_IT_nk pI u11
            have clv := px_lv_nk ulv u11 hnk (by omega)
            have hcm := (px_TK_kd hTK (show 0 ≤ c by omega) clv).2.2
            rcases pI with ⟨k4, j1, j2, x, e', pY, k14, hc, hq⟩ | ⟨z, _⟩
            · subst hc
              have k4' : px_K b n (u.1 18 11).toNat = 4 := by omega
              have l1 := px_TY_le pY
              have hck : px_ck (px_SN b n) (q :: l') C M e ↔ ((M.length < 5 ∧ px_nv (px_SN b n) C (u.1 18 11 + 1) ∧ px_nv (px_SN b n) M (u.1 18 11 + 1) ∧ qx_at x ≤ 5) ∧ px_ck (px_SN b n) l' C (M ++ [(u.1 18 11 + 1, x)]) e) := by
                rw [hq, k4']
                constructor
                · rintro (⟨z, _⟩ | ⟨_, z1, z2, z3, z4, z5⟩ | ⟨z, _⟩)
                  · exact absurd z (by dsimp only; decide)
                  · exact ⟨⟨z1, z2, z3, z4⟩, z5⟩
                  · exact absurd z (by dsimp only; decide)
                · rintro ⟨⟨z1, z2, z3, z4⟩, z5⟩
                  exact Or.inr (Or.inl ⟨rfl, z1, z2, z3, z4, z5⟩)
              refine c_dz_declM hsL (d + 1) (by omega) b n C M (u.1 18 11) e' x u K uI rfl u11 j1 j2 (Or.inr k4') pY k14 uE (px_lv_le clv (by omega)) (by omega) (fun t hok hIT h10 tE tF tT => hK 1 t ?_) (fun hno t tI => hK 0 t ⟨tI, Or.inr ⟨rfl, fun z => hno (hck.mp (uck.mp z)).1⟩⟩)
              obtain ⟨t0, t11, t9, t25, t6, t8, tt⟩ := hIT trivial
              refine ⟨t0, Or.inl ⟨rfl, fun _ => ⟨⟨C, M ++ [(u.1 18 11 + 1, x)], e, l', tE, by omega, by rw [t11]; exact pX', by rw [t11]; exact clv, ?_, ?_, ⟨E, by rw [uE1, hq, k4']; rfl, uE2, dl_pr_F tF tT uE3, by rw [uM, hq, k4']; rfl, by rw [uC, hq, k4']; rfl⟩, ⟨by omega, by omega, by rw [List.length_append, List.length_singleton, congrFun (tF.same 11 rfl).1 6]; omega, by omega, by omega⟩⟩, by omega⟩⟩⟩
              · rw [uck, hck]
                exact ⟨fun z => z.2, fun z => ⟨hok, z⟩⟩
              · rw [hq] at ucn
                simp only [px_c3, k4'] at ucn
                simp at ucn
                try simp only [List.length_append, List.length_singleton]
                omega
            · omega
        · rintro hx z t ⟨tI, hz⟩
          exact ⟨_, by omega, tI, Or.inl ⟨rfl, z, x2 + 1, rfl, by omega, hz, rfl⟩⟩
        · rintro (q | q)
          · omega
          · cases l' with
            | nil =>
              have z3 : ∀ k, px_c3 k [] = 0 := fun _ => rfl
              rw [z3, z3, z3] at ucn
              have lC := ((uE trivial).2.1 trivial).1
              have lM := ((uE trivial).2.2.1 trivial).1
              exact ⟨5, by omega, uI, Or.inr ⟨rfl, 1, 0, rfl, by omega, Or.inl ⟨rfl, uck.mpr trivial, by omega, C, M, uE, by rw [uE1]; exact (by rw [show vl_eq [] C M = [] from rfl, List.append_nil]; exact uE3), by omega, uM.symm, uC.symm, fun _ _ hk => absurd hk (Nat.not_lt_zero _)⟩, rfl⟩⟩
            | cons p l' =>
              obtain ⟨c, pI, _⟩ := uX
              exact absurd q (px_IT_k pI)
      · exact w_ac_47 (b := b) (n := n) (Z := fun _ _ => False) (c_dx_kind hsL (d + 1) (by omega) b n) uI (fun q => absurd q (by decide)) (Or.inl rfl) (by omega) (fun q => absurd q (by decide)) (fun q => absurd q (by decide)) (fun q => absurd q (by decide)) (fun q => absurd q (by decide)) (fun _ _ _ q => q.elim) (fun _ => ⟨5, by omega, uI, Or.inr ⟨rfl, 0, 0, rfl, by omega, Or.inr ⟨rfl, hU⟩, rfl⟩⟩)
    · rcases hU with ⟨rfl, hck, hc, C, M, uE, uP, ⟨n6, n8, n5⟩, eM, eC, uro⟩ | ⟨rfl, hU⟩
      · obtain ⟨E1, E2, E3, ⟨E4, E5⟩, E6, E7⟩ := uE trivial
        have lM := (E3 trivial).1
        have f6 := uI.fld 11 6 (by decide) rfl
        have m5 : M.length ≤ 5 := by
          rw [eM]
          exact (vl_mf_5 hck (by show 0 ≤ 5; decide) (by decide)).1
        refine w_aw_134 (G1 := fun z t => z = u.1 11 6 ∧ cx_I t ∧ cx_F [(11, 17)] u t ∧ dz_N1 3 x2 (-1) u t ∧ x2 < u.1 22 2) (G2 := fun _ t ty => ∃ p : Int × qx_T, M[x2.toNat]? = some p ∧ dx_is t p.2 ty ∧ qx_at p.2 ≤ 5) (G3 := fun w v => cx_I v ∧ cx_F [(11, 17)] u v ∧ (-1 ≤ w ∧ w ≤ 1023) ∧ dz_fr (fun j => (j : Int) < u.1 11 6) u v ∧ (u.1 11 8 ≤ v.1 11 8 ∧ ∀ j : Nat, (j : Int) < u.1 11 8 → v.2.1 17 j = u.2.1 17 j) ∧ v.1 11 6 ≤ u.1 11 6 + 9 ∧ v.1 11 8 ≤ u.1 11 8 + 4 ∧ dw_r1 M x2.toNat v w) (c_dz_totM hsL (d + 1) (by omega)) uI (Or.inr rfl) r2 (fun hm K hK => ?_) (fun z t hz K hK => ?_) (fun z t ty hz hty K hK => ?_) (fun z t hz => ⟨hz.2.1, by omega⟩) (fun w v hv => ⟨hv.1, hv.2.2.1⟩) (fun hxx => hK1 hck u uI hc ⟨C, M, uE, uP, by omega, eM, eC, by rw [show M.length = x2.toNat by omega]; exact uro⟩) (fun h5 hm w v hv => ?_)
        · exact c_dz_node hsL (d + 1) (by omega) 3 x2 u K uI (by omega) (by omega) (by omega) (fun t t1 t2 t3 => hK _ t ⟨rfl, t1, t2, t3, hm⟩)
        · obtain ⟨_, t1, t2, t3, hm⟩ := hz
          refine c_dz_ntM hsL (d + 1) (by omega) x2 t K t1 (by omega) (fun ty hty => hK ty ?_)
          obtain ⟨e', q1, _, _, q4⟩ := (E3 trivial).2 x2.toNat (by omega)
          have ety := hty (by omega) (by rw [(t2.same 22 rfl).1]; exact hm)
          rw [ety, (t2.same 24 rfl).2]
          exact ⟨e', q1, dz_is_F t2 q4, E7 e' (List.mem_of_getElem? q1)⟩
        · obtain ⟨ez, t1, t2, t3, hm⟩ := hz
          obtain ⟨⟨pn, T⟩, hT0, hT1, hT2⟩ := hty
          dsimp only at hT1 hT2
          obtain ⟨m1, m2, m3, _⟩ := t3 trivial
          have e8 : t.1 8 2 = u.1 8 2 := congrFun (t2.same 8 rfl).1 2
          have Tp := qx_at_pos T
          rw [ez]
          refine c_dl_cp hsL 5 (by omega) (d + 1) (by omega) (u.1 11 6) T (u.1 11 6) ty 0 3 x2 .leaf t K t1 (by decide) (dz_T_new t3 f6.1 (by omega) (by omega)) hT1 (by omega) hT2 (by omega) (by omega) (by show (0 : Int) + 1 ≤ _; omega) (by omega) (by omega) (fun w v W v1 v2 v3 => hK w v ?_)
          obtain ⟨c1, c2, c3, ⟨c4, c5, c6⟩, c7, _, c9⟩ := v3 trivial
          obtain ⟨c10, _, c11, c12⟩ := c9 trivial
          have f8 := uI.fld 11 8 (by decide) rfl
          have hx0 : ((x2.toNat : Nat) : Int) = x2 := by omega
          have hw := dz_T_z c2 c1
          have g6 := v1.fld 11 6 (by decide) rfl
          exact ⟨v1, cx_F_step v2 rfl t2, by omega, dz_fr_t c3 (dz_fr_w (dz_fr_N1 t3) (fun _ q => q)) (fun _ q => q), ⟨by omega, fun j hj => (c7 j (by omega)).trans (congrFun m3 j)⟩, by omega, by omega, fun _ => ⟨W, (pn, T), hT0, ⟨c1, dz_T_lo c2 f6.1⟩, ⟨c10 0 (by omega) (fun q => absurd rfl q), c12⟩, fun AR hA => by rw [hx0]; exact c11 rfl AR [] hA (fun _ h => absurd h List.not_mem_nil)⟩⟩
        · obtain ⟨v1, v2, v3, v4, v5, v6, v7, v8⟩ := hv
          have g : dz_G (u.1 11 6) u v := dz_G_11 v1 v2 E4 v4 v5
          have F3 : cx_F [(18, 18), (25, 26)] v ((v.1, sx_ua v.2.1 25 x2.toNat w, v.2.2) : sx_S) := cx_F_ua rfl (cx_F_refl _ _)
          refine ⟨(5 - (x2 + 1)).toNat, by omega, cx_I_ua rfl rfl v1 (by omega) (by omega), Or.inr ⟨rfl, 1, x2 + 1, rfl, by omega, Or.inl ⟨rfl, hck, ?_, C, M, dz_E_F (dz_E_G uE g) F3, dl_pr_mono (u := u) ?_ ?_ (dx_tu_c ?_ ?_ ?_) (fun j _ => ?_) uP, ?_, eM, eC, ?_⟩, rfl⟩⟩
          · show v.1 19 2 = _ ∧ v.1 22 2 = _ ∧ v.1 18 10 = _
            rw [(v2.same 19 rfl).1, (v2.same 22 rfl).1, (v2.same 18 rfl).1]
            exact hc
          · exact fun _ => ⟨(v4 trivial).1, fun j hj => by
              rw [(F3.same 12 rfl).2, (F3.same 13 rfl).2, (F3.same 14 rfl).2, (F3.same 15 rfl).2, (F3.same 16 rfl).2]
              exact (v4 trivial).2 j hj⟩
          · rw [(F3.same 17 rfl).2]
            exact v5
          · exact congrFun (v2.same 8 rfl).1 2
          · rw [(F3.same 9 rfl).2, (v2.same 9 rfl).2]
          · rw [(F3.same 10 rfl).2, (v2.same 10 rfl).2]
          · show sx_ua v.2.1 25 x2.toNat w 26 j = _
            rw [sx_ua_ne (by decide), (v2.same 26 rfl).2]
          · show v.1 11 6 + _ ≤ _ ∧ v.1 11 8 ≤ _ ∧ _ ≤ _
            omega
          · have tu1 : dx_tu u v := dx_tu_c (congrFun (v2.same 8 rfl).1 2) (v2.same 9 rfl).2 (v2.same 10 rfl).2
            have tu2 : dx_tu v ((v.1, sx_ua v.2.1 25 x2.toNat w, v.2.2) : sx_S) := dx_tu_c rfl (F3.same 9 rfl).2 (F3.same 10 rfl).2
            have fr2 : dz_fr (fun j => (j : Int) < v.1 11 6) v ((v.1, sx_ua v.2.1 25 x2.toNat w, v.2.2) : sx_S) := fun _ => ⟨Int.le_refl _, fun j _ => by
              rw [(F3.same 12 rfl).2, (F3.same 13 rfl).2, (F3.same 14 rfl).2, (F3.same 15 rfl).2, (F3.same 16 rfl).2]
              exact ⟨rfl, rfl, rfl, rfl, rfl⟩⟩
            have h82 : v.1 11 8 ≤ ((v.1, sx_ua v.2.1 25 x2.toNat w, v.2.2) : sx_S).1 11 8 ∧ ∀ j : Nat, (j : Int) < v.1 11 8 → ((v.1, sx_ua v.2.1 25 x2.toNat w, v.2.2) : sx_S).2.1 17 j = v.2.1 17 j := ⟨Int.le_refl _, fun j _ => by rw [(F3.same 17 rfl).2]⟩
            intro _ k hk
            have e25 : ((v.1, sx_ua v.2.1 25 x2.toNat w, v.2.2) : sx_S).2.1 25 k = if k = x2.toNat then w else u.2.1 25 k := by
              show sx_ua v.2.1 25 x2.toNat w 25 k = _
              rw [sx_ua_if, if_pos rfl, (v2.same 25 rfl).2]
            rw [e25]
            by_cases hkx : k = x2.toNat
            · rw [if_pos hkx, hkx]
              exact dw_r1_mono fr2 h82 tu2 v8
            · rw [if_neg hkx]
              exact dw_r1_mono fr2 h82 tu2 (dw_r1_mono v4 v5 tu1 (uro trivial k (by omega)))
      · refine w_ac_134 h_nw h_cw (c_dz_ntw hsL (d + 1) (by omega)) (c_dz_totM hsL (d + 1) (by omega)) uI (Or.inl rfl) r2 (hK0 hU u uI) (fun hx t tI tk => ⟨_, by omega, tI, Or.inr ⟨rfl, 0, x2 + 1, rfl, by omega, Or.inr ⟨rfl, hU⟩, rfl⟩⟩)
end
section
/-- what load leaves, with the roots -/
def dw_LD (b : Nat → Int) (n : Int) (l : List vl_I) (s : sx_S) : Prop := True → dl_LD b n l s ∧ dw_ro (vl_mf l []) (vl_mf l []).length s
theorem dw_LD_F {b : Nat → Int} {n : Int} {l : List vl_I} {s t : sx_S} (hE : ∀ bb C M, dz_E bb n C M s → dz_E bb n C M t) (h11 : t.1 11 = s.1 11) (h12 : ∀ k, 12 ≤ k → k ≤ 17 → t.2.1 k = s.2.1 k) (h25 : t.2.1 25 = s.2.1 25) (h26 : t.2.1 26 = s.2.1 26) (h18 : t.1 18 10 = s.1 18 10) (hu : dx_tu s t) (h : dw_LD b n l s) : dw_LD b n l t := fun _ => by
  obtain ⟨h1, h2⟩ := h trivial
  refine ⟨dl_LD_F hE h11 h12 h26 h18 hu h1, dw_ro_mono (fun _ => ⟨by rw [h11]; exact Int.le_refl _, fun j _ => ?_⟩) ⟨by rw [h11]; exact Int.le_refl _, fun j _ => by rw [h12 17 (by decide) (by decide)]⟩ hu (fun j _ => by rw [h25]) h2⟩
  rw [h12 12 (by decide) (by decide), h12 13 (by decide) (by decide), h12 14 (by decide) (by decide), h12 15 (by decide) (by decide), h12 16 (by decide) (by decide)]
  exact ⟨rfl, rfl, rfl, rfl, rfl⟩
end
section
/-! ===== the desk: the roots of the unknowns as solving leaves them ===== -/
theorem dw_lm_go (T : rf_N) : ∀ (n : Nat) (a : List (Int × List Int)), wz_go (vq_lm n T) a = wz_go T a
  | 0, _ => rfl
  | n + 1, a => by
    show wz_go (.inner 0 (0, 0) () (vq_lm n T) .leaf) a = _
    rw [wz_go_in, if_neg (by decide)]
    exact dw_lm_go T n a
theorem dw_id_ix {us : List Int} (hn : us.Nodup) (e : Int → Int) (v : Int) (hv : 0 ≤ v) : vx_ix ((([] : List Int) ++ us).map (vq_up us 0 e)) (0 + (us.length : Int)) v = v := by
  have hm := vq_up_map hn 0 e
  show vx_ix (us.map (vq_up us 0 e)) (0 + (us.length : Int)) v = v
  unfold vx_ix
  rw [List.length_map]
  by_cases c : v < (us.length : Int)
  · rw [if_pos c, List.getD_eq_getElem?_getD, hm v.toNat (by omega)]
    show 0 + ((v.toNat : Nat) : Int) = v
    omega
  · rw [if_neg c]
    omega
theorem dw_ar_cg {AR AR' : Nat → List Int} : ∀ {W : rf_N}, (∀ j ∈ rf_idx W, AR' j = AR j) → dl_ar AR W → dl_ar AR' W
  | .leaf, _, _ => trivial
  | .inner j q u F X, h, ⟨h1, h2, h3⟩ => ⟨fun q3 => by rw [h j List.mem_cons_self]; exact h1 q3, fun q3 => dw_ar_cg (fun i hi => h i (List.mem_cons_of_mem _ (List.mem_append_left _ hi))) (h2 q3), dw_ar_cg (fun i hi => h i (List.mem_cons_of_mem _ (List.mem_append_right _ hi))) h3⟩
theorem dw_nn_tr {A16 : Nat → Int} {AR : Nat → List Int} : ∀ {A : rf_N}, dv_tr A16 AR A → wz_nn A
  | .leaf, _ => trivial
  | .inner j q u F X, ⟨h1, h2, h3⟩ => by
    refine ⟨fun _ => h2, fun q3 => ?_, dw_nn_tr h3, fun q0 => ?_⟩
    · rcases h1 with ⟨_, _, h⟩ | ⟨_, _, h⟩ | ⟨e, _⟩
      · exact dw_nn_tr h
      · exact dw_nn_tr h
      · exact absurd e q3
    · rcases h1 with ⟨_, h, _⟩ | ⟨e, _⟩ | ⟨e, _⟩
      · exact h
      · omega
      · omega
/-- the root of one unknown -/
theorem dw_root {s t : sx_S} {M : List (Int × qx_T)} {S : vx_S} {th : Int → rf_N} {k : Nat} (hI : cx_I s) (hM : ∀ q ∈ M, qx_at q.2 ≤ 5) (hk : k < M.length) (hM0 : s.1 22 2 = (M.length : Int)) (h6 : s.1 11 6 ≤ 960) (hle : vx_le (dv_S0 s (dl_ra M) (dl_AR s)) S) (hfr : dw_fr s t) (hS : vx_So S th) (h : dw_r1 M k s (s.2.1 25 k)) : ∃ A, dv_at t S.2.2.2.2 A (t.2.1 25 k) ∧ wd_sd S 0 A [] ∧ (vx_lh A ≤ 67 ∧ vx_hh A ≤ 20 ∧ vx_hz A ≤ 1024) ∧ ∀ a, wz_go (wd_v th S.2.2.2.2 (A, dv_lk [], 0)) a = wz_go (th (k : Int)) a := by
  obtain ⟨W, p, e1, ⟨e2, e3⟩, ⟨e4, e5⟩, e6⟩ := h trivial
  obtain ⟨f1, f2⟩ := hfr trivial
  have f6 := hI.fld 11 6 (by decide) rfl
  have lt := dz_T_lt e3
  obtain ⟨nd, ar, ndp, _, _⟩ := e3 trivial
  have hA := dl_AR_ar nd ar
  have hc := e6 _ hA
  have p5 : qx_at p.2 ≤ 5 := hM p (List.mem_of_getElem? e1)
  have tr : dv_tr (s.2.1 16) (dl_AR s) W := vl_c3_tr hc (by omega) (by show 0 + qx_at p.2 ≤ 5; omega) ar hA List.nodup_nil (fun _ h => absurd h List.not_mem_nil)
  have hra : dl_ra M (k : Int) = ((rf_args (qx_sh p.2)).length : Int) := by
    unfold dl_ra
    rw [Int.toNat_natCast, e1]
    rfl
  have htm : ∀ i : Int, dl_tm M (k : Int) i = vl_ta p.2 i := fun i => by
    unfold dl_tm
    rw [Int.toNat_natCast, e1]
    rfl
  have ok := (vl_c3_ty (tv := dl_tv s) (tc := fun _ => rf_b) (tm := dl_tm M) (fun v T h => dl_tv_eq h) (U := p.2) (Ts := []) hc htm rfl rfl (fun i y T h => by simp at h)).2
  have hin : vx_in (dv_S0 s (dl_ra M) (dl_AR s)) W := by
    refine ⟨fun m hm => ?_, fun j hj => lt j hj, vx_ok_cg (fun m hm => ?_) (fun _ _ => rfl) ok⟩
    · have := vl_c3_mt hc hm
      show 0 ≤ m ∧ m < s.1 22 2
      omega
    · rw [vl_c3_mt hc hm]
      exact hra
  have nf : dv_nf (s.1 11 6) (dl_AR s) S.2.2.2.2 s t := fun _ => ⟨f1, fun j hj => hle.2.2.2 j hj⟩
  have hat : dv_at s (dl_AR s) W (s.2.1 25 k) := by
    obtain ⟨j, kk, hh, F, eW⟩ := e5
    subst eW
    obtain ⟨⟨a1, a2⟩, ⟨a3, a4⟩, a5, _⟩ := nd
    exact ⟨j, kk, hh, F, rfl, ⟨a1, a2⟩, ⟨a3, a4⟩, a5, tr⟩
  have hc' := e6 S.2.2.2.2 (dw_ar_cg (fun j hj => hle.2.2.2 j (lt j hj)) hA)
  obtain ⟨_, _, lh, hh, _⟩ := vl_c3_ct (D := []) List.nodup_nil hc
  have h1 := vx_hz_idx W
  have h2 := dl_len f6.1 ndp lt
  have k1 : (k : Int) < S.1 := by
    have q : s.1 22 2 ≤ S.1 := hle.1.1
    omega
  refine ⟨W, by rw [(f2.same 25 rfl).2]; exact dv_at_fr (Int.le_refl _) nf hat, fun _ => ⟨⟨vx_in_le hle hin, e5⟩, ⟨Int.le_refl _, vx_ck_nil 0⟩, fun z hz => ?_, vx_nb_mono (fun z hz => absurd hz List.not_mem_nil) e4⟩, ⟨by omega, by omega, by omega⟩, fun a => ?_⟩
  · exact absurd (vl_c3_fv hc' (fun _ h => absurd h List.not_mem_nil) z hz) List.not_mem_nil
  · obtain ⟨us, u1, u2, u3, u4⟩ := vq_c3 hc'
    show wz_go (vx_val th S.2.2.2.2 W (dv_lk []) 0) a = _
    rw [u4 th (dv_lk []) 0 (fun m => (hS.1 m).1), dw_lm_go, vx_re_id (hS.2.1 (k : Int) (by omega) k1) (fun v hv => dw_id_ix u2 _ v ((hS.1 (k : Int)).2 v hv))]
theorem dw_R {s t : sx_S} {M : List (Int × qx_T)} {S : vx_S} {th : Int → rf_N} (hI : cx_I s) (hM : ∀ q ∈ M, qx_at q.2 ≤ 5) (hM0 : s.1 22 2 = (M.length : Int)) (h6 : s.1 11 6 ≤ 960) (hle : vx_le (dv_S0 s (dl_ra M) (dl_AR s)) S) (hfr : dw_fr s t) (hS : vx_So S th) (h : dw_ro M M.length s) : ∃ ls : List rf_N, ls.length = M.length ∧ wd_R S th t ls := by
  obtain ⟨ls, l1, l2⟩ := dl_list (o := 0) (E := M) (P := fun k (_ : Int × qx_T) (A : rf_N) => dv_at t S.2.2.2.2 A (t.2.1 25 k) ∧ wd_sd S 0 A [] ∧ (vx_lh A ≤ 67 ∧ vx_hh A ≤ 20 ∧ vx_hz A ≤ 1024) ∧ ∀ a, wz_go (wd_v th S.2.2.2.2 (A, dv_lk [], 0)) a = wz_go (th (k : Int)) a) (fun k p hk => by
    have hl := (List.getElem?_eq_some_iff.mp hk).1
    rw [Nat.zero_add]
    exact dw_root hI hM hl hM0 h6 hle hfr hS (h trivial k hl))
  obtain ⟨_, f2⟩ := hfr trivial
  refine ⟨ls, l1, fun _ => ⟨by rw [(f2.same 22 rfl).1, hM0, l1], fun k A hA => ?_⟩⟩
  have hl : k < M.length := by
    rw [← l1]
    exact (List.getElem?_eq_some_iff.mp hA).1
  obtain ⟨y, y1, y2⟩ := l2 k _ (List.getElem?_eq_getElem hl)
  rw [hA] at y1
  have ey : A = y := Option.some.inj y1
  rw [Nat.zero_add, ← ey] at y2
  exact y2
theorem dw_MG {tv tc : Int → rf_T} {tm : Int → Int → rf_T} {t : sx_S} {S : vx_S} {PR : Int → List (Int × Int)} {n0 : Int} {Qs : (Int → rf_N) → Prop} {th : Int → rf_N} (hG : dv_G tv tc n0 Qs t S PR tm [] []) (hS : vx_So S th) (ho : ∀ u, S.2.2.2.1 u = none → th u = vx_gn S.2.2.1 u) : wz_MG S n0 Qs th := fun _ => by
  obtain ⟨g1, g2, g3, g4, _, _, g8⟩ := hG trivial
  obtain ⟨⟨W, B1, Sc, rk, hrk⟩, _⟩ := g3 trivial
  obtain ⟨_, M4⟩ := g2 trivial
  refine ⟨⟨W, B1, rk, hrk⟩, fun u B e hb => ?_, ⟨hS, ho⟩, fun th' h => g8.1 th' h (fun _ hp => absurd hp List.not_mem_nil), g8.2.2.1, g8.2.2.2⟩
  obtain ⟨u0, u1⟩ := (W u B e hb).1
  rcases (M4 u u0 u1).2 with ⟨q, _⟩ | ⟨B', q1, q2, _⟩
  · rw [q] at hb
    cases hb
  · rw [q1] at hb
    obtain ⟨e1, _⟩ := Prod.mk.inj (Option.some.inj hb)
    subst e1
    obtain ⟨j, k, h, F, eB, _, _, _, tr⟩ := q2
    exact dw_nn_tr tr
theorem wz_MG_cg {S : vx_S} {n0 : Int} {Q Q' : (Int → rf_N) → Prop} {th : Int → rf_N} (h : ∀ th, vx_gd th → (Q th ↔ Q' th)) (hG : wz_MG S n0 Q th) : wz_MG S n0 Q' th := fun _ => by
  obtain ⟨g1, g2, g3, g4, g5, g6⟩ := hG trivial
  exact ⟨g1, g2, g3, fun th' h' => (h th' h'.1).mp (g4 th' h'), g5, fun th0 a1 a2 a3 => g6 th0 a1 a2 ((h th0 a1).mpr a3)⟩
end
section
theorem w_dw_solve {CALL : sx_Ca} {sL : Nat} {sx : Nat → Int32} {Q : Nat → sx_L → sx_S → Prop} {R : Int → sx_S → Prop} {G : Int → sx_S → Prop} {G2 : sx_S → sx_S → Prop} {s : sx_S} (h_un : s.1 0 2 ≠ 0 → s.1 0 3 = -1 → ∀ K : Int → sx_S → Prop, (∀ z t, G z t → K z t) → CALL 70 [.inr (.inl 38), .inr (.inl 18)] s K) (hG : ∀ z t, G z t → cx_I t ∧ (z = 0 ∨ z = 1)) (h_nu : ∀ t, G 1 t → cx_I (sx_uf t.1 0 3 0, t.2) → ∀ K : Int → sx_S → Prop, (∀ u, G2 t u → K 0 u) → CALL 124 [.inr (.inl 55)] (sx_uf t.1 0 3 0, t.2) K) (hG2 : ∀ t u, G2 t u → cx_I u) (hI : cx_I s) (hK0 : s.1 0 2 = 0 → R (-1) s) (hK1 : s.1 0 2 ≠ 0 → s.1 0 3 ≠ -1 → R (s.1 0 3) s) (hK2 : s.1 0 2 ≠ 0 → s.1 0 3 = -1 → ∀ t, G 0 t → R (((sx_uf t.1 0 3 1, t.2) : sx_S).1 0 3) (sx_uf t.1 0 3 1, t.2)) (hK3 : s.1 0 2 ≠ 0 → s.1 0 3 = -1 → ∀ t, G 1 t → ∀ u, G2 t u → R (u.1 0 3) u) : sx_wp true sL sx eX11_solve CALL [] Q R 400 0 (sx_argsF 0 [.inr (.inl 0)]) [] s := by
  have h3 := hI.fld 0 3 (by decide) rfl
  have h2 := hI.fld 0 2 (by decide) rfl
  have hI1 : ∀ z t, G z t → cx_I (sx_uf t.1 0 3 1, t.2) := fun z t h => cx_I_uf rfl rfl (hG z t h).1 (by omega) (by omega)
  have hI0 : ∀ z t, G z t → cx_I (sx_uf t.1 0 3 0, t.2) := fun z t h => cx_I_uf rfl rfl (hG z t h).1 (by omega) (by omega)
  by_cases c2 : s.1 0 2 = 0
  · have k := hK0 c2
    repeat' (first | (with_reducible (rintro _ rfl)) | (with_reducible intro _) | (refine And.intro ?_ ?_))
    all_goals (try dsimp only at *)
    all_goals (first | trivial | assumption | omega | (exfalso; omega) | (exact k) | skip)
  · by_cases c3 : s.1 0 3 = -1
    · have hK2' := hK2 c2 c3
      have hK3' := hK3 c2 c3
      have hun' := h_un c2 c3
      clear hK0 hK1 hK2 hK3 h_un
      repeat' (first | (with_reducible (rintro _ rfl)) | (with_reducible intro _) | (refine And.intro ?_ ?_) | (refine hun' _ (fun zzz zzt zzg => ?_); obtain ⟨zzi, zzc⟩ := hG zzz zzt zzg; have zz1 := hI1 zzz zzt zzg; have zz0 := hI0 zzz zzt zzg; rcases zzc with zze | zze <;> subst zze) | (refine h_nu zzt zzg zz0 _ (fun zzu zzv => ?_); have zzw := hG2 zzt zzu zzv) | (fail))
      all_goals (try dsimp only at *)
      all_goals (first | trivial | assumption | omega | (exfalso; omega) | (exact hK2' _ (by assumption)) | (exact hK3' zzt zzg zzu zzv) | (simp only [px_us] at *; first | omega | (exfalso; omega) | exact hK2' _ (by assumption)) | skip)
    · have k := hK1 c2 c3
      repeat' (first | (with_reducible (rintro _ rfl)) | (with_reducible intro _) | (refine And.intro ?_ ?_))
      all_goals (try dsimp only at *)
      all_goals (first | trivial | assumption | omega | (exfalso; omega) | (exact k) | skip)
end
section
/-! ===== the reference's solve, with how many new unknowns it numbers ===== -/
noncomputable def wy_T (u : sx_S) (m : Int) (q : Nat) : rf_T := @dite rf_T (∃ T, rf_py u m q T) (Classical.propDecidable _) (fun h => Classical.choose h) (fun _ => .leaf)
noncomputable def wy_ht (u : sx_S) (h : Int) : List rf_T := (List.range 4).map (wy_T u (-1 - h))
theorem wy_ht_at {u : sx_S} {m : Int} {q : Nat} (hq : q < 4) (h : ∃ T, rf_py u m q T) : rf_py u m q ((wy_ht u (-1 - m)).getD q .leaf) := by
  have e : (wy_ht u (-1 - m)).getD q .leaf = wy_T u m q := by
    unfold wy_ht
    rw [List.getD_eq_getElem?_getD, List.getElem?_map, List.getElem?_range hq]
    show wy_T u (-1 - (-1 - m)) q = _
    rw [show -1 - (-1 - m) = m by omega]
  rw [e]
  unfold wy_T
  rw [dif_pos h]
  exact Classical.choose_spec h
section
variable {Ω : Type}
noncomputable def wy_E (E0 : we_E Ω) (u : sx_S) (th : Int → rf_N) (AR : Nat → List Int) (rk : Int → Nat) : we_E Ω := (E0.1, E0.2.1, wy_ht u, th, AR, rk)
theorem wy_nn {nb ib : Int} {s : sx_S} {g : rf_Gh} {AR : Nat → List Int} (hM : rf_MI nb ib s g) : ∀ u B e, (vr_S s g AR).2.2.2.1 u = some (B, e) → wz_nn B := fun u B e hb => by
  obtain ⟨h1, h2, h3, _⟩ := vr_bo_some hb
  rw [← h3]
  exact (we_nn we_Hn1).1 _ ((hM.1 u h1.1 h1.2).2.2.2 h2).1.2.1
theorem wy_G {E0 : we_E Ω} {nb ib : Int} {u : sx_S} {g : rf_Gh} {AR : Nat → List Int} {th : Int → rf_N} {rk : Int → Nat} (hI : cx_I u) (hM : rf_MI nb ib u g) (hG : vr_G u g AR) (hS : vx_So (vr_S u g AR) th) (ho : ∀ v, (vr_S u g AR).2.2.2.1 v = none → th v = vx_gn (vr_ar u) v) (hrk : vx_rk (vr_S u g AR) rk) (h58 : 1 ≤ u.1 66 58) (hR : we_Rn E0 u) : we_G (wy_E E0 u th AR rk) u g := fun _ => by
  refine ⟨⟨hG, hS⟩, fun m m0 m1 h0 => ho m (vr_bo_no h0), fun m m0 m1 => (wz_sol hrk (vr_W hI hG) (vr_B1 hI hG) hS ho (wy_nn hM) hS m m0 m1).1, fun v m v0 v1 hs hm => hrk v _ _ m (vr_bo_at ⟨v0, v1⟩ hs) hm, fun m q m0 m1 hq => wy_ht_at ?_ ((hM.1 m m0 m1).1 q hq), h58, hR⟩
  have := vr_aa0 hI m
  omega
theorem wy_MG {s u : sx_S} {AR' AR : Nat → List Int} {tl : List (rf_N × rf_N)} {M : List (Int × qx_T)} {g : rf_Gh} {nb ib mt : Int} {th : Int → rf_N} (hI : cx_I u) (hM : rf_MI nb ib u g) (hD : px_DL 97 123 45 mt s M) (h9 : 2 ≤ s.1 66 9) (hZ : rf_Z s u) (hU : rf_UK u) (hS : vx_So (vr_S u g AR) th) (ho : ∀ v, (vr_S u g AR).2.2.2.1 v = none → th v = vx_gn (vr_ar u) v) (hJ : vs_J s AR' tl M u g AR (tl.length : Int)) : wz_MG (vr_S u g AR) (M.length : Int) (vs_Q AR' tl (tl.length : Int)) th ∧ ∀ m, 0 ≤ m → m < (M.length : Int) → (vr_S u g AR).2.2.1 m = vs_ra M m := by
  obtain ⟨j1, j2, j3, j4⟩ := hJ trivial
  have xu := rf_Z_xu hZ
  have ar : ∀ m, 0 ≤ m → m < (M.length : Int) → vr_ar u m = vs_ra M m := fun m m0 m1 => by
    obtain ⟨v1, v2⟩ := vs_ar hD h9 xu hU m0 m1
    rw [vr_ar_at ⟨m0, v2⟩, v1]
  refine ⟨fun _ => ⟨⟨vr_W hI j1, vr_B1 hI j1, _, vr_rk hI hM j1⟩, wy_nn hM, ⟨hS, ho⟩, fun th' h => (j3 th' h).2, ?_, fun th0 g0 s0 q0 => j4 th0 ⟨g0, fun m m0 m1 => ?_⟩ q0⟩, ar⟩
  · show (M.length : Int) ≤ u.1 66 61
    have e1 := (hD trivial).1
    have e2 := (xu.2 0).1.2.2.2.2
    have e3 := hU.1
    omega
  · rw [← ar m m0 m1]
    exact s0 m m0 m1
/-- a side of an equation, for those that write -/
theorem wy_RT {E : we_E Ω} {s t : sx_S} {g : rf_Gh} {SN : Int → Int → Prop} {C M0 : List (Int × qx_T)} {n1 : px_N} {z : Int} {x y : rf_T} {A : rf_N} (hZ : rf_Z s t) (hU : rf_UK t) (hR : ∀ i m ws, vk_RX s i m ws → we_AR E i = ws) (q1 : rf_EQ s z y) (d1 : vk_sd SN C M0 n1 s z) (hA : rf_CL t g (fun _ _ => False) A .leaf x [] (1150 + (rf_wh A).1) z (-1)) (hfo : ∀ v, ¬ (rf_fo (rf_Wd t g.2.2) A).1 v) : we_RT E t g z := by
  obtain ⟨A', e1, e2, _⟩ := q1
  obtain ⟨A2, ⟨a1, a2⟩, _⟩ := d1
  obtain rfl := rf_nd_fun a1 e1
  have h50 := hZ.2.2.1
  have ag : rf_ag 100 103 (s.1 66 50) s t := fun p j h1 h2 h3 => hZ.2.1.1 p j h1 (by omega) h3
  have eA : A = A2 := rf_nd_fun hA.1.1 (rf_no_up ag h50 a1)
  subst eA
  refine ⟨A, x, hA, hfo, (vs_g h50 (vs_p hZ hU hR) a1).1 _ e2, fun m hm => ?_⟩
  have gg := (vs_g (n := s.1 66 50) (p := fun _ r => 0 ≤ r ∧ r < s.1 66 45) (Int.le_refl _) (fun j r e _ hm' _ => by
    obtain ⟨x, ⟨h, _⟩, _⟩ := hm'
    exact h) a1).1 _ e2
  obtain ⟨_, h⟩ := vs_mt.1 gg hm
  have e45 := ((rf_Z_xu hZ).2 0).1.2.2.2.2
  omega
end
end
section
/-! ===== the desk's load, for what solve numbers ===== -/
theorem dw_LD_c {b : Nat → Int} {n : Int} {l : List vl_I} {s t : sx_S} (h : ∀ p, 2 ≤ p → p ≤ 28 → t.1 p = s.1 p ∧ t.2.1 p = s.2.1 p) (g : dw_LD b n l s) : dw_LD b n l t := by
  have a8 := (h 8 (by decide) (by decide)).1
  have b9 := (h 9 (by decide) (by decide)).2
  have b10 := (h 10 (by decide) (by decide)).2
  exact dw_LD_F (fun bb C M q => dz_E_c h q) (h 11 (by decide) (by decide)).1 (fun k h1 h2 => (h k (by omega) (by omega)).2) (h 25 (by decide) (by decide)).2 (h 26 (by decide) (by decide)).2 (by rw [(h 18 (by decide) (by decide)).1]) (fun j => ⟨by rw [a8]; exact Int.le_refl _, fun _ => ⟨by rw [b9], by rw [b10]⟩⟩) g
end
section
/-! ===== fresh, exactly, of both ===== -/
theorem w8_hasSol {CALL : sx_Ca} {sL : Nat} {sx : Nat → Int32} {Q : Nat → sx_L → sx_S → Prop} {R : Int → sx_S → Prop} {s : sx_S} (hI : cx_I s) (h1 : s.1 0 2 ≠ 0 → s.1 0 3 = 0 → R 1 s) (h0 : (s.1 0 2 = 0 ∨ s.1 0 3 ≠ 0) → R 0 s) : sx_wp true sL sx eX11_hasSolution CALL [] Q R 400 0 (sx_argsF 0 [.inr (.inl 0)]) [] s := by
  have r2 := hI.fld 0 2 (by decide) rfl
  have r3 := hI.fld 0 3 (by decide) rfl
  repeat' (first | (with_reducible (rintro _ rfl)) | (with_reducible intro _) | (refine And.intro ?_ ?_))
  all_goals (try dsimp only at *)
  all_goals (first | trivial | assumption | omega | (exfalso; omega) | (exact h1 (by omega) (by omega)) | (exact h0 (by omega)) | skip)
theorem c8_hasSol {sL : Nat} {sx : Nat → Int32} (hsL : sL ≤ 3072) (d : Nat) (hd : 2 ≤ d) : ∀ (s : sx_S) (K : Int → sx_S → Prop), cx_I s → (s.1 0 2 ≠ 0 → s.1 0 3 = 0 → K 1 s) → ((s.1 0 2 = 0 ∨ s.1 0 3 ≠ 0) → K 0 s) → sx_C sL sx d 147 [.inr (.inl 0)] s K := by
  intro s K hI h1 h0
  obtain ⟨d, rfl⟩ : ∃ e, d = e + 2 := ⟨d - 2, by omega⟩
  exact sx_meth (wr := true) (n := 400) hsL (e := eX11_hasSolution) rfl (w8_hasSol (Q := fun _ _ _ => False) hI h1 h0)
end
section
/-! ===== the reference puts bytes, exactly ===== -/
/-- powers of ten; a digit; the digits from 10 ^ j down; how many -/
def wb_p : Nat → Int
  | 0 => 1
  | j + 1 => wb_p j * 10
def wb_d (v t : Int) : Int := 48 + (v.tdiv t - (v.tdiv t).tdiv 10 * 10)
def wb_ds (v : Int) : Nat → List Int
  | 0 => [wb_d v 1]
  | j + 1 => wb_d v (wb_p (j + 1)) :: wb_ds v j
def wb_kf (v : Int) : Nat → Nat → Nat
  | 0, j => j
  | f + 1, j => if v.tdiv (wb_p j) ≤ 9 then j else wb_kf v f (j + 1)
def wb_dg (v : Int) : List Int := wb_ds v (wb_kf v 9 0)
theorem wb_p1 : ∀ j, 1 ≤ wb_p j
  | 0 => Int.le_refl _
  | j + 1 => by
    have := wb_p1 j
    show 1 ≤ wb_p j * 10
    omega
theorem wb_p9 : ∀ {j : Nat}, j ≤ 9 → wb_p j ≤ 1000000000 := by
  decide
theorem wb_ds_c {v : Int} (j : Nat) : ∃ l, wb_ds v j = wb_d v (wb_p j) :: l ∧ ((j = 0 ∧ l = []) ∨ ∃ i, j = i + 1 ∧ l = wb_ds v i) := by
  cases j with
  | zero => exact ⟨[], rfl, Or.inl ⟨rfl, rfl⟩⟩
  | succ i => exact ⟨wb_ds v i, rfl, Or.inr ⟨i, rfl, rfl⟩⟩
theorem wb_p_d (j : Nat) : (wb_p (j + 1)).tdiv 10 = wb_p j := by
  have h1 := wb_p1 j
  have h2 : wb_p (j + 1) = wb_p j * 10 := rfl
  rw [rf_d10 (by omega), h2]
  omega
section
variable {Ω : Type}
theorem we_PT_0 {E : we_E Ω} {s : sx_S} (hI : cx_I s) : we_PT E s s [] := ⟨hI, cx_F_refl _ _, rf_f_refl _ _, fun _ h => h⟩
theorem we_PT_t {E : we_E Ω} {s u t : sx_S} {l l' : List Int} (h1 : we_PT E s u l) (h2 : we_PT E u t l') : we_PT E s t (l ++ l') := ⟨h2.1, cx_F_step h2.2.1 rfl h1.2.1, rf_f_step h2.2.2.1 rfl h1.2.2.1, fun o ho => by
  rw [List.foldl_append]
  exact h2.2.2.2 _ (h1.2.2.2 o ho)⟩
theorem w_b_putN {CALL : sx_Ca} {sL : Nat} {sx : Nat → Int32} {Q : Nat → sx_L → sx_S → Prop} {R : Int → sx_S → Prop} {s : sx_S} {a0 a1 : Int} {PW : sx_S → Prop} (hP : ∀ K : Int → sx_S → Prop, (∀ z t, PW t → K z t) → CALL 203 [.inr (.inl 66), .inl a0] s K) (p0 : -2147483648 ≤ a0 ∧ a0 ≤ 2147483647) (p1 : -2147483648 ≤ a1 ∧ a1 ≤ 2147483647) (hQ : ∀ t, PW t → Q 7 [(0, .inr (.inl 66)), (2, .inl a1), (3, .inl 1)] t) : sx_wp false sL sx eX12_putNumber CALL [(7, [0, 2, 3]), (26, [0, 2, 4])] Q R 400 0 (sx_argsF 0 [.inr (.inl 66), .inl a0, .inl a1]) [] s := by
  repeat' (first | (with_reducible intro _) | (refine And.intro ?_ ?_) | (refine hP _ (fun zzz zzt zzp => ?_)) | (fail))
  all_goals (try dsimp only at *)
  all_goals (first | trivial | assumption | omega | (exact hQ _ zzp) | skip)
theorem w_b_putN7 {CALL : sx_Ca} {sL : Nat} {sx : Nat → Int32} {Q : Nat → sx_L → sx_S → Prop} {R : Int → sx_S → Prop} {s : sx_S} {a1 y : Int} (p1 : -2147483648 ≤ a1 ∧ a1 ≤ 2147483647) (hy : 1 ≤ y ∧ y ≤ 2147483647) (hQ7 : 9 < a1.tdiv y → Q 7 [(0, .inr (.inl 66)), (2, .inl a1), (3, .inl (y * 10))] s) (hQ26 : a1.tdiv y ≤ 9 → Q 26 [(0, .inr (.inl 66)), (2, .inl a1), (4, .inl y)] s) : sx_wp false sL sx eX12_putNumber CALL [(7, [0, 2, 3]), (26, [0, 2, 4])] Q R 400 7 [(0, .inr (.inl 66)), (2, .inl a1), (3, .inl y)] [] s := by
  have hd := rf_dvin p1 hy.1
  have hb : 9 < a1.tdiv y → y * 10 ≤ a1 := rf_dv hy.1
  repeat' (first | (with_reducible intro _) | (refine And.intro ?_ ?_))
  all_goals (try dsimp only at *)
  all_goals (first | trivial | assumption | omega | (simp only [sx_w_f] at *; omega) | (exact hQ7 (by omega)) | (exact hQ26 (by omega)) | (exact hQ7 (by simp only [sx_w_f] at *; omega)) | (exact hQ26 (by simp only [sx_w_f] at *; omega)) | skip)
theorem w_b_putN26 {CALL : sx_Ca} {sL : Nat} {sx : Nat → Int32} {Q : Nat → sx_L → sx_S → Prop} {R : Int → sx_S → Prop} {s : sx_S} {a1 y : Int} {PW : sx_S → Prop} (p1 : -2147483648 ≤ a1 ∧ a1 ≤ 2147483647) (hy : 0 ≤ y ∧ y ≤ 2147483647) (hK : y = 0 → R 0 s) (hP : 0 < y → ∀ K : Int → sx_S → Prop, (∀ z t, PW t → K z t) → CALL 203 [.inr (.inl 66), .inl (wb_d a1 y)] s K) (hQ : 0 < y → ∀ t, PW t → Q 26 [(0, .inr (.inl 66)), (2, .inl a1), (4, .inl (y.tdiv 10))] t) : sx_wp false sL sx eX12_putNumber CALL [(7, [0, 2, 3]), (26, [0, 2, 4])] Q R 400 26 [(0, .inr (.inl 66)), (2, .inl a1), (4, .inl y)] [] s := by
  have hd := fun h => rf_dvin (t := y) p1 h
  have hr := rf_rm (a1.tdiv y)
  have h10 := rf_d10 hy.1
  have hr2 := fun h : 1 ≤ y => rf_dvin (t := 10) (rf_dvin (t := y) p1 h) (by decide)
  have hdd : wb_d a1 y = 48 + (a1.tdiv y - (a1.tdiv y).tdiv 10 * 10) := rfl
  rw [hdd] at hP
  repeat' (first | (with_reducible intro _) | (refine And.intro ?_ ?_) | (refine hP (by omega) _ (fun zzz zzt zzp => ?_)) | (fail))
  all_goals (try dsimp only at *)
  all_goals (first | trivial | assumption | omega | (simp only [sx_w_f] at *; omega) | (exact hK (by omega)) | (exact hQ (by omega) _ zzp) | (have zz1 := hd (by omega); have zz2 := hr2 (by omega); simp only [sx_w_f] at *; omega) | skip)
theorem c_b_putN {E : we_E Ω} (hdg : E.1.2.1 = wb_dg) {sL : Nat} {sx : Nat → Int32} (hsL : sL ≤ 3072) (hP : ∀ d : Nat, 2 ≤ d → ∀ (a0 : Int) (s : sx_S) (K : Int → sx_S → Prop), cx_I s → (-2147483648 ≤ a0 ∧ a0 ≤ 2147483647) → (∀ z t, we_PT E s t [a0] → K z t) → sx_C sL sx d 203 [.inr (.inl 66), .inl a0] s K) (d : Nat) (hd : 3 ≤ d) : ∀ (a0 a1 : Int) (s : sx_S) (K : Int → sx_S → Prop), cx_I s → (0 ≤ a0 ∧ a0 ≤ 255) → (-2147483648 ≤ a1 ∧ a1 ≤ 2147483647) → (∀ z t, we_PT E s t (a0 :: E.1.2.1 a1) → K z t) → sx_C sL sx d 204 [.inr (.inl 66), .inl a0, .inl a1] s K := by
  intro a0 a1 s K hI p0 p1 hK
  rw [hdg] at hK
  obtain ⟨d, rfl⟩ : ∃ e, d = e + 2 := ⟨d - 2, by omega⟩
  refine sx_methL (wr := false) (n := 400) (n' := 400) (stop := [(7, [0, 2, 3]), (26, [0, 2, 4])]) (fun n pc ls u => (pc = 7 ∧ ∃ j : Nat, ls = [(0, .inr (.inl 66)), (2, .inl a1), (3, .inl (wb_p j))] ∧ j ≤ 9 ∧ wb_kf a1 (9 - j) j = wb_kf a1 9 0 ∧ we_PT E s u [a0] ∧ n = 100 - j) ∨ (pc = 26 ∧ ∃ (y : Int) (l l' : List Int), ls = [(0, .inr (.inl 66)), (2, .inl a1), (4, .inl y)] ∧ we_PT E s u (a0 :: l) ∧ l ++ l' = wb_dg a1 ∧ ((y = 0 ∧ l' = [] ∧ n = 0) ∨ ∃ j : Nat, j ≤ 9 ∧ y = wb_p j ∧ l' = wb_ds a1 j ∧ n = j + 1))) hsL (e := eX12_putNumber) rfl ?_ ?_
  · refine w_b_putN (PW := fun t => we_PT E s t [a0]) (fun K' hK' => hP (d + 1) (by omega) a0 s K' hI (by omega) hK') (by omega) p1 (fun t ht => ⟨_, Or.inl ⟨rfl, 0, rfl, by omega, rfl, ht, rfl⟩⟩)
  · rintro n pc ls u (⟨rfl, j, rfl, j9, hk, hu, rfl⟩ | ⟨rfl, y, l, l', rfl, hu, hl, hc⟩)
    · have h1 := wb_p1 j
      have h9 := wb_p9 j9
      have hb : 9 < a1.tdiv (wb_p j) → wb_p j * 10 ≤ a1 := rf_dv h1
      refine w_b_putN7 p1 ⟨h1, by omega⟩ (fun q => ?_) (fun q => ?_)
      · have hj : j ≠ 9 := fun e => by
          have h10 := hb q
          have e9 : wb_p 9 = 1000000000 := by decide
          rw [e, e9] at h10
          omega
        refine ⟨100 - (j + 1), by omega, Or.inl ⟨rfl, j + 1, rfl, by omega, ?_, hu, rfl⟩⟩
        rw [← hk, show 9 - j = (9 - (j + 1)) + 1 by omega]
        show _ = if a1.tdiv (wb_p j) ≤ 9 then j else wb_kf a1 (9 - (j + 1)) (j + 1)
        rw [if_neg (by omega)]
      · have ek : wb_kf a1 9 0 = j := by
          rw [← hk]
          by_cases c : j = 9
          · rw [c]
            rfl
          · rw [show 9 - j = (9 - (j + 1)) + 1 by omega]
            show (if a1.tdiv (wb_p j) ≤ 9 then j else wb_kf a1 (9 - (j + 1)) (j + 1)) = j
            rw [if_pos q]
        refine ⟨j + 1, by omega, Or.inr ⟨rfl, wb_p j, [], wb_ds a1 j, rfl, hu, ?_, Or.inr ⟨j, j9, rfl, rfl, rfl⟩⟩⟩
        show wb_ds a1 j = wb_ds a1 (wb_kf a1 9 0)
        rw [ek]
    · rcases hc with ⟨y0, el, rfl⟩ | ⟨j, j9, ey, el, rfl⟩
      · refine w_b_putN26 (PW := fun _ => False) p1 (by omega) (fun _ => hK 0 u ?_) (fun q => absurd q (by omega)) (fun q => absurd q (by omega))
        rw [el, List.append_nil] at hl
        rw [← hl]
        exact hu
      · have h1 := wb_p1 j
        have h9 := wb_p9 j9
        obtain ⟨l2, e1, e2⟩ := wb_ds_c (v := a1) j
        have hr := rf_rm (a1.tdiv y)
        refine w_b_putN26 (PW := fun t => we_PT E u t [wb_d a1 y]) p1 (by omega) (fun q => absurd q (by omega)) (fun _ K' hK' => hP (d + 1) (by omega) _ u K' hu.1 (by unfold wb_d; omega) hK') (fun _ t ht => ?_)
        have hl2 : (l ++ [wb_d a1 y]) ++ l2 = wb_dg a1 := by
          rw [← hl, el, e1, ey, List.append_assoc]
          rfl
        have hpt : we_PT E s t (a0 :: (l ++ [wb_d a1 y])) := we_PT_t hu ht
        rcases e2 with ⟨j0, rfl⟩ | ⟨i, ji, rfl⟩
        · refine ⟨0, by omega, Or.inr ⟨rfl, y.tdiv 10, l ++ [wb_d a1 y], [], rfl, hpt, hl2, Or.inl ⟨?_, rfl, rfl⟩⟩⟩
          rw [ey, j0]
          decide
        · refine ⟨i + 1, by omega, Or.inr ⟨rfl, y.tdiv 10, l ++ [wb_d a1 y], wb_ds a1 i, rfl, hpt, hl2, Or.inr ⟨i, by omega, ?_, rfl, rfl⟩⟩⟩
          rw [ey, ji]
          exact wb_p_d i
end
end
