/-! ===== the desk's solve, with how many new unknowns it numbers ===== -/
def dw_U (b : Nat → Int) (n : Int) (l : List vl_I) (s t : sx_S) : Prop := True → ∃ (tl : vw_L) (S : vx_S) (PR : Int → List (Int × Int)) (tm' : Int → Int → rf_T), dv_G (dl_tv s) (dl_tc (vl_kf l [])) (s.1 22 2) (dv_Q (dl_AR s) tl) t S PR tm' [] [] ∧ vx_le (dv_S0 s (dl_ra (vl_mf l [])) (dl_AR s)) S ∧ dw_fr s t ∧ vl_tx (px_SN b n) (dl_TV s) (dl_AR s) l [] [] tl
theorem c_dw_un1 {sL : Nat} {sx : Nat → Int32} (hsL : sL ≤ 3072) (d : Nat) (hd : 12 ≤ d) : ∀ (b : Nat → Int) (n : Int) (l : List vl_I) (s : sx_S) (K : Int → sx_S → Prop), cx_I s → dl_LD b n l s → (∀ t, ¬ vl_sat (px_SN b n) l → K 0 t) → (∀ t, dw_U b n l s t → K 1 t) → sx_C sL sx d 70 [.inr (.inl 38), .inr (.inl 18)] s K := by
  intro b n l s K hI hL hK0 hK1
  obtain ⟨⟨n0, n240⟩, hX, hck, ⟨bb, hE⟩, hpr, h6, h10⟩ := hL trivial
  obtain ⟨tl, x1, x2, x3⟩ := dl_X hI n0 hX hck hE hpr h6 h10
  have lM := ((hE trivial).2.2.1 trivial).1
  have iff := vl_sat_iff x2
  rw [lM] at iff
  have m5 := (vl_mf_5 hck (by show 0 ≤ 5; decide) (by decide)).1
  refine c_dw_un hsL d hd (dl_ra (vl_mf l [])) (dl_AR s) tl s K hI x1 (fun S th hle hS hQ hB hnl => ?_) (fun t h => hK0 t (fun q => h (iff.mp q))) (fun t S PR tm' h1 h2 h3 => hK1 t (fun _ => ⟨tl, S, PR, tm', h1, h2, h3, x2⟩))
  obtain ⟨_, _, _, _, x6⟩ := x1 trivial
  have idx : ∀ q ∈ tl, (∀ j ∈ rf_idx q.1, S.2.2.2.2 j = dl_AR s j) ∧ ∀ j ∈ rf_idx q.2, S.2.2.2.2 j = dl_AR s j := fun q hq => by
    obtain ⟨i, hi⟩ := List.mem_iff_getElem?.mp hq
    obtain ⟨_, ty, s1, s2⟩ := x6 i q.1 q.2 hi
    exact ⟨fun j hj => hle.2.2.2 j ((s1 trivial).1.1.2.1 j hj), fun j hj => hle.2.2.2 j ((s2 trivial).1.1.2.1 j hj)⟩
  refine vl_cap n0 n240 hX hck x2 idx (fun q hq => (x3 q hq).1) m5 (fun m q hm hne => ?_) hS hB hnl
  apply Classical.byContradiction
  intro hlt
  have p1 := qx_at_pos q.2
  have e0 : dl_ra (vl_mf l []) (m : Int) = 0 := by
    unfold dl_ra
    rw [Int.toNat_natCast, hm]
    have h2 := rf_at_sh q.2
    have h3 := rf_args_at (qx_sh q.2)
    show ((rf_args (qx_sh q.2)).length : Int) = 0
    omega
  have key : ∀ l' : vw_L, (∀ q ∈ l', vx_ok (dl_ra (vl_mf l [])) (dl_AR s) q.1 ∧ vx_ok (dl_ra (vl_mf l [])) (dl_AR s) q.2) → vw_cl (dl_AR s) false (m : Int) l' = 0 := fun l' => by
    induction l' with
    | nil => exact fun _ => rfl
    | cons p r ih =>
      intro h
      show vw_cn (dl_AR s) false (m : Int) p.1 [] + vw_cn (dl_AR s) false (m : Int) p.2 [] + vw_cl (dl_AR s) false (m : Int) r = 0
      rw [ih (fun q hq => h q (List.mem_cons_of_mem _ hq)), vw_cn_b0 e0 (h p List.mem_cons_self).1, vw_cn_b0 e0 (h p List.mem_cons_self).2]
  exact hne (key tl (fun q hq => (x3 q hq).2))
theorem c_dw_unI {sL : Nat} {sx : Nat → Int32} (hsL : sL ≤ 3072) (d : Nat) (hd : 12 ≤ d) : ∀ (b : Nat → Int) (n : Int) (l : List vl_I) (s : sx_S) (K : Int → sx_S → Prop), cx_I s → dl_LD b n l s → (∀ t, cx_I t → cx_F [(11, 17), (29, 54)] s t → ¬ vl_sat (px_SN b n) l → K 0 t) → (∀ t, dw_U b n l s t → K 1 t) → sx_C sL sx d 70 [.inr (.inl 38), .inr (.inl 18)] s K := by
  intro b n l s K hI hL hK0 hK1
  refine sx_bothM (e := eX6_unifies) rfl (c_unifiesD hsL d (by omega) s (fun z t => cx_I t ∧ cx_F [(11, 17), (29, 54)] s t ∧ (0 ≤ z ∧ z ≤ 1)) hI (fun z t a1 a2 a3 _ => ⟨a1, a2, a3⟩)) (c_dw_un1 hsL d hd b n l s (fun z t => (z = 0 ∧ ¬ vl_sat (px_SN b n) l) ∨ (z = 1 ∧ dw_U b n l s t)) hI hL (fun t h => Or.inl ⟨rfl, h⟩) (fun t h => Or.inr ⟨rfl, h⟩)) (fun z1 t1 z2 t2 h1 h2 hv hh => ?_)
  obtain ⟨a1, a2, a3⟩ := h1
  have hz2 : z2 = 0 ∨ z2 = 1 := by
    rcases h2 with ⟨q, _⟩ | ⟨q, _⟩
    · exact Or.inl q
    · exact Or.inr q
  have e : z1 = z2 := sx_vo_int hv (by omega) (by omega)
  subst e
  rcases h2 with ⟨q1, q2⟩ | ⟨q1, q2⟩
  · refine ⟨t1, rfl, rfl, ?_⟩
    rw [q1]
    exact hK0 t1 a1 a2 q2
  · refine ⟨t2, hh.symm, ?_, ?_⟩
    · obtain ⟨_, _, _, _, _, _, q3, _⟩ := q2 trivial
      have c1 := ((q3 trivial).2 0).2
      have c2 := (a2 0).2
      rw [c1, c2]
    · rw [q1]
      exact hK1 t2 q2
theorem w_dw_solve {CALL : sx_Ca} {sL : Nat} {sx : Nat → Int32} {Q : Nat → sx_L → sx_S → Prop} {R : Int → sx_S → Prop} {G : Int → sx_S → Prop} {G2 : sx_S → sx_S → Prop} {s : sx_S} (h_un : s.1 0 2 ≠ 0 → s.1 0 3 = -1 → ∀ K : Int → sx_S → Prop, (∀ z t, G z t → K z t) → CALL 70 [.inr (.inl 38), .inr (.inl 18)] s K) (hG : ∀ z t, G z t → cx_I t ∧ (z = 0 ∨ z = 1)) (h_nu : ∀ t, G 1 t → cx_I (sx_uf t.1 0 3 0, t.2) → ∀ K : Int → sx_S → Prop, (∀ u, G2 t u → K 0 u) → CALL 124 [.inr (.inl 55)] (sx_uf t.1 0 3 0, t.2) K) (hG2 : ∀ t u, G2 t u → cx_I u) (hI : cx_I s) (hK0 : s.1 0 2 = 0 → R (-1) s) (hK1 : s.1 0 2 ≠ 0 → s.1 0 3 ≠ -1 → R (s.1 0 3) s) (hK2 : s.1 0 2 ≠ 0 → s.1 0 3 = -1 → ∀ t, G 0 t → R (((sx_uf t.1 0 3 1, t.2) : sx_S).1 0 3) (sx_uf t.1 0 3 1, t.2)) (hK3 : s.1 0 2 ≠ 0 → s.1 0 3 = -1 → ∀ t, G 1 t → ∀ u, G2 t u → R (u.1 0 3) u) : sx_wp true sL sx eX11_solve CALL [] Q R 400 0 (sx_argsF 0 [.inr (.inl 0)]) [] s := by
  have h3 := hI.fld 0 3 (by decide) rfl
  have h2 := hI.fld 0 2 (by decide) rfl
  have hI1 : ∀ z t, G z t → cx_I (sx_uf t.1 0 3 1, t.2) := fun z t h => cx_I_uf rfl rfl (hG z t h).1 (by omega) (by omega)
  have hI0 : ∀ z t, G z t → cx_I (sx_uf t.1 0 3 0, t.2) := fun z t h => cx_I_uf rfl rfl (hG z t h).1 (by omega) (by omega)
  by_cases c2 : s.1 0 2 = 0
  · have k := hK0 c2
    repeat' (first | (with_reducible (rintro _ rfl)) | (with_reducible intro _) | (refine And.intro ?_ ?_))
    all_goals (try dsimp only at *)
    all_goals (first | trivial | assumption | omega | (exfalso; omega) | (exact k) | skip)
  · by_cases c3 : s.1 0 3 = -1
    · have hK2' := hK2 c2 c3
      have hK3' := hK3 c2 c3
      have hun' := h_un c2 c3
      clear hK0 hK1 hK2 hK3 h_un
      repeat' (first | (with_reducible (rintro _ rfl)) | (with_reducible intro _) | (refine And.intro ?_ ?_) | (refine hun' _ (fun zzz zzt zzg => ?_); obtain ⟨zzi, zzc⟩ := hG zzz zzt zzg; have zz1 := hI1 zzz zzt zzg; have zz0 := hI0 zzz zzt zzg; rcases zzc with zze | zze <;> subst zze) | (refine h_nu zzt zzg zz0 _ (fun zzu zzv => ?_); have zzw := hG2 zzt zzu zzv) | (fail))
      all_goals (try dsimp only at *)
      all_goals (first | trivial | assumption | omega | (exfalso; omega) | (exact hK2' _ (by assumption)) | (exact hK3' zzt zzg zzu zzv) | (simp only [px_us] at *; first | omega | (exfalso; omega) | exact hK2' _ (by assumption)) | skip)
    · have k := hK1 c2 c3
      repeat' (first | (with_reducible (rintro _ rfl)) | (with_reducible intro _) | (refine And.intro ?_ ?_))
      all_goals (try dsimp only at *)
      all_goals (first | trivial | assumption | omega | (exfalso; omega) | (exact k) | skip)
/-- solve answers z in s, t is left -/
def dw_SO (b : Nat → Int) (n : Int) (l : List vl_I) (s : sx_S) (z : Int) (t : sx_S) : Prop := True → dl_SO b n l s z t ∧ (s.1 0 2 ≠ 0 → s.1 0 3 = -1 → z = 0 → wy_D (px_SN b n) l (t.1 55 8)) ∧ (s.1 0 2 = 0 ∨ s.1 0 3 ≠ -1 → t.1 55 8 = s.1 55 8)
theorem c_dw_solve {sL : Nat} {sx : Nat → Int32} (hsL : sL ≤ 3072) (d : Nat) (hd : 14 ≤ d) : ∀ (b : Nat → Int) (n : Int) (l : List vl_I) (s : sx_S) (K : Int → sx_S → Prop), cx_I s → (s.1 0 2 ≠ 0 → s.1 0 3 = -1 → dw_LD b n l s) → (∀ z t, dw_SO b n l s z t → K z t) → sx_C sL sx d 141 [.inr (.inl 0)] s K := by
  intro b n l s K hI hL hK
  obtain ⟨d, rfl⟩ : ∃ e, d = e + 2 := ⟨d - 2, by omega⟩
  refine sx_meth (wr := true) (n := 400) hsL (e := eX11_solve) rfl (w_dw_solve (Q := fun _ _ _ => False) (G := fun z t => cx_I t ∧ cx_F [(11, 17), (29, 54)] s t ∧ ((z = 0 ∧ ¬ vl_sat (px_SN b n) l) ∨ (z = 1 ∧ (s.1 0 2 ≠ 0 ∧ s.1 0 3 = -1) ∧ dw_U b n l s t))) (G2 := fun t u => cx_I u ∧ cx_F [(29, 37), (55, 65)] (sx_uf t.1 0 3 0, t.2) u ∧ wy_D (px_SN b n) l (u.1 55 8) ∧ vl_sat (px_SN b n) l) (fun c2 c3 K' hK' => ?_) (fun z t h => ⟨h.1, ?_⟩) (fun t ht iu K' hK' => ?_) (fun t u h => h.1) hI (fun c => ?_) (fun c2 c3 => ?_) (fun c2 c3 t ht => ?_) (fun c2 c3 t ht u u2 => ?_))
  · refine c_dw_unI hsL (d + 1) (by omega) b n l s K' hI (hL c2 c3 trivial).1 (fun t a1 a2 a3 => hK' 0 t ⟨a1, a2, Or.inl ⟨rfl, a3⟩⟩) (fun t a => hK' 1 t ?_)
    obtain ⟨_, _, _, _, q1, _, q3, _⟩ := a trivial
    exact ⟨(q1 trivial).1, (q3 trivial).2, Or.inr ⟨rfl, ⟨c2, c3⟩, a⟩⟩
  · rcases h.2.2 with ⟨q, _⟩ | ⟨q, _⟩
    · exact Or.inl q
    · exact Or.inr q
  · obtain ⟨a1, a2, a3⟩ := ht
    rcases a3 with ⟨q, _⟩ | ⟨_, ⟨c2, c3⟩, hU⟩
    · exact absurd q (by decide)
    · obtain ⟨hLD, hro⟩ := hL c2 c3 trivial
      obtain ⟨⟨n0, n240⟩, hX, hck, ⟨bb, hE⟩, hpr, h6, h10⟩ := hLD trivial
      obtain ⟨tl, S, PR, tm', hG, hle, hfr, htx⟩ := hU trivial
      obtain ⟨g1, g2, g3, g4, ⟨_, g6⟩, g7, g8⟩ := hG trivial
      obtain ⟨⟨W, B1, Sc, rk, hrk⟩, TS⟩ := g3 trivial
      obtain ⟨th, hS, ho, _⟩ := vx_fin W B1 hrk Sc
      obtain ⟨_, _, hE3, _, _, E7⟩ := hE trivial
      have lM := (hE3 trivial).1
      have m5 := (vl_mf_5 hck (by show 0 ≤ 5; decide) (by decide)).1
      obtain ⟨ls, l1, hR⟩ := dw_R hI E7 (by omega) h6 hle hfr hS hro
      have hF0 : cx_F [(0, 0)] t ((sx_uf t.1 0 3 0, t.2) : sx_S) := cx_F_uf rfl (cx_F_refl _ _)
      have hG' : dv_G (dl_tv s) (dl_tc (vl_kf l [])) (s.1 22 2) (dv_Q (dl_AR s) tl) (sx_uf t.1 0 3 0, t.2) S PR tm' [] [] := fun _ => by
        have nf : dv_nf (t.1 11 6) S.2.2.2.2 S.2.2.2.2 t ((sx_uf t.1 0 3 0, t.2) : sx_S) := dv_nf_F _ hF0 (by decide)
        exact ⟨iu, dv_M_fr (Int.le_refl _) (by rw [(hF0.same 11 rfl).1]) nf (by rw [(hF0.same 33 rfl).1]) rfl rfl rfl rfl g2, g3, g4, ⟨trivial, by rw [(hF0.same 39 rfl).1]; exact g6⟩, g7, g8⟩
      have hR' : wd_R S th ((sx_uf t.1 0 3 0, t.2) : sx_S) ls := fun _ => by
        obtain ⟨r1, r2⟩ := hR trivial
        refine ⟨by rw [(hF0.same 22 rfl).1]; exact r1, fun k A hA => ?_⟩
        obtain ⟨y1, y2⟩ := r2 k A hA
        exact ⟨dv_at_fr (Int.le_refl _) (dv_nf_F (t.1 11 6) hF0 (by decide)) y1, y2⟩
      refine c_dw_nu hsL (d + 1) (by omega) S PR tm' ls _ K' hG' hS ho hrk (by omega) hR' (fun u u1 u2 u3 u4 u5 => hK' u ⟨u1, cx_F_step u2 rfl (cx_F_refl _ _), fun _ => ⟨_, _, tl, S, th, htx, ?_, fun v v0 v1 => hle.2.1 v v0 ?_, ?_⟩, ?_⟩)
      · have := dw_MG hG hS ho
        rw [← lM] at this
        exact this
      · show v < s.1 22 2
        omega
      · rw [(u5 trivial).1, l1]
      · refine (vl_sat_iff htx).mpr ⟨th, hS.1, fun v v0 v1 => ?_, g8.1 th hS (fun _ hp => absurd hp List.not_mem_nil)⟩
        have h1 := hS.2.1 v v0 (by have q1 : s.1 22 2 ≤ S.1 := hle.1.1; omega)
        have h2 : S.2.2.1 v = dl_ra (vl_mf l []) v := hle.2.1 v v0 (by show v < s.1 22 2; omega)
        rw [h2] at h1
        exact h1
  · exact hK _ _ (fun _ => ⟨fun _ => ⟨hI, cx_F_refl _ _, ⟨rfl, rfl⟩, fun _ => ⟨rfl, rfl⟩, fun q => absurd c q, fun q => absurd c q⟩, fun q => absurd c q, fun _ => rfl⟩)
  · exact hK _ _ (fun _ => ⟨fun _ => ⟨hI, cx_F_refl _ _, ⟨rfl, rfl⟩, fun q => absurd q c2, fun _ _ => ⟨rfl, rfl⟩, fun _ q => absurd q c3⟩, fun _ q => absurd q c3, fun _ => rfl⟩)
  · obtain ⟨a1, a2, a3⟩ := ht
    have e0 : t.1 0 = s.1 0 := (a2.same 0 rfl).1
    have e3 : ((sx_uf t.1 0 3 1, t.2) : sx_S).1 0 3 = 1 := px_uS
    have ns : ¬ vl_sat (px_SN b n) l := by
      rcases a3 with q | q
      · exact q.2
      · exact absurd q.1 (by decide)
    refine hK _ _ (fun _ => ⟨fun _ => ⟨cx_I_uf rfl rfl a1 (by omega) (by omega), cx_F_uf rfl (cx_F_step a2 rfl (cx_F_refl _ _)), ⟨?_, ?_⟩, fun q => absurd q c2, fun _ q => absurd c3 q, fun _ _ => ⟨rfl, Or.inr ⟨e3, ns⟩⟩⟩, fun _ _ q => ?_, fun q => ?_⟩)
    · show sx_uf t.1 0 3 1 0 1 = _
      rw [sx_uf_if, if_neg (by omega), e0]
    · show sx_uf t.1 0 3 1 0 2 = _
      rw [sx_uf_if, if_neg (by omega), e0]
    · rw [e3] at q
      exact absurd q (by decide)
    · exact absurd q (by omega)
  · obtain ⟨a1, a2, a3⟩ := ht
    obtain ⟨u1, u2, u3, ns⟩ := u2
    have e0 : t.1 0 = s.1 0 := (a2.same 0 rfl).1
    have eu : u.1 0 = sx_uf t.1 0 3 0 0 := (u2.same 0 rfl).1
    have e3 : u.1 0 3 = 0 := by
      rw [eu]
      exact px_us _ _ _ _
    refine hK _ _ (fun _ => ⟨fun _ => ⟨u1, cx_F_step u2 rfl (cx_F_uf rfl (cx_F_step a2 rfl (cx_F_refl _ _))), ⟨?_, ?_⟩, fun q => absurd q c2, fun _ q => absurd c3 q, fun _ _ => ⟨rfl, Or.inl ⟨e3, ns⟩⟩⟩, fun _ _ _ => u3, fun q => ?_⟩)
    · rw [eu]
      show sx_uf t.1 0 3 0 0 1 = _
      rw [sx_uf_if, if_neg (by omega), e0]
    · rw [eu]
      show sx_uf t.1 0 3 0 0 2 = _
      rw [sx_uf_if, if_neg (by omega), e0]
    · exact absurd q (by omega)
