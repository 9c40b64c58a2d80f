/-! ===== the desk's solve, with what it holds then ===== -/
/-- solve answers z in s, t is left -/
def dk_SO (b : Nat → Int) (n : Int) (l : List vl_I) (s : sx_S) (z : Int) (t : sx_S) : Prop := True → dl_SO b n l s z t ∧ (s.1 0 2 ≠ 0 → s.1 0 3 = -1 → z = 0 → wk_D b n l t) ∧ (s.1 0 2 = 0 ∨ s.1 0 3 ≠ -1 → t = s)
theorem c_k_solve {sL : Nat} {sx : Nat → Int32} (hsL : sL ≤ 3072) (d : Nat) (hd : 14 ≤ d) : ∀ (b : Nat → Int) (n : Int) (l : List vl_I) (s : sx_S) (K : Int → sx_S → Prop), cx_I s → (s.1 0 2 ≠ 0 → s.1 0 3 = -1 → dk_LD b n l s) → (∀ z t, dk_SO b n l s z t → K z t) → sx_C sL sx d 141 [.inr (.inl 0)] s K := by
  intro b n l s K hI hL hK
  obtain ⟨d, rfl⟩ : ∃ e, d = e + 2 := ⟨d - 2, by omega⟩
  refine sx_meth (wr := true) (n := 400) hsL (e := eX11_solve) rfl (w_dw_solve (Q := fun _ _ _ => False) (G := fun z t => cx_I t ∧ cx_F [(11, 17), (29, 54)] s t ∧ ((z = 0 ∧ ¬ vl_sat (px_SN b n) l) ∨ (z = 1 ∧ (s.1 0 2 ≠ 0 ∧ s.1 0 3 = -1) ∧ dx_U b n l s t))) (G2 := fun t u => cx_I u ∧ cx_F [(29, 37), (55, 65)] (sx_uf t.1 0 3 0, t.2) u ∧ wk_D b n l u ∧ vl_sat (px_SN b n) l) (fun c2 c3 K' hK' => ?_) (fun z t h => ⟨h.1, ?_⟩) (fun t ht iu K' hK' => ?_) (fun t u h => h.1) hI (fun c => ?_) (fun c2 c3 => ?_) (fun c2 c3 t ht => ?_) (fun c2 c3 t ht u u2 => ?_))
  · refine c_dx_unI hsL (d + 1) (by omega) b n l s K' hI ((hL c2 c3 trivial).1 trivial).1 (fun t a1 a2 a3 => hK' 0 t ⟨a1, a2, Or.inl ⟨rfl, a3⟩⟩) (fun t a => hK' 1 t ?_)
    obtain ⟨_, _, _, _, _, q1, _, q3, _⟩ := a trivial
    exact ⟨(q1 trivial).1, (q3 trivial).1.2, Or.inr ⟨rfl, ⟨c2, c3⟩, a⟩⟩
  · rcases h.2.2 with ⟨q, _⟩ | ⟨q, _⟩
    · exact Or.inl q
    · exact Or.inr q
  · obtain ⟨a1, a2, a3⟩ := ht
    rcases a3 with ⟨q, _⟩ | ⟨_, ⟨c2, c3⟩, hU⟩
    · exact absurd q (by decide)
    · obtain ⟨hLD, hro⟩ := (hL c2 c3 trivial).1 trivial
      obtain ⟨⟨n0, n240⟩, hX, hck, ⟨bb, hE⟩, hpr, h6, h10⟩ := hLD trivial
      obtain ⟨tl, S, PR, tm', htm, hG, hle, hfr, htx, hB, hXd, hty⟩ := hU trivial
      obtain ⟨g1, g2, g3, g4, ⟨_, g6⟩, g7, g8⟩ := hG trivial
      obtain ⟨⟨W, B1, Sc, rk, hrk⟩, TS⟩ := g3 trivial
      obtain ⟨th, hS, ho, _⟩ := vx_fin W B1 hrk Sc
      obtain ⟨_, _, hE3, _, _, E7⟩ := hE trivial
      have lM := (hE3 trivial).1
      have m5 := (vl_mf_5 hck (by show 0 ≤ 5; decide) (by decide)).1
      obtain ⟨ls, l1, hR⟩ := dw_R hI E7 (by omega) h6 hle (dx_fr_w hfr) hS hro
      have hF0 : cx_F [(0, 0)] t ((sx_uf t.1 0 3 0, t.2) : sx_S) := cx_F_uf rfl (cx_F_refl _ _)
      have hG' : dv_G (dl_tw s) (dl_tc (vl_kf l [])) (s.1 22 2) (dv_Q (dl_AR s) tl) (sx_uf t.1 0 3 0, t.2) S PR tm' [] [] := fun _ => by
        have nf : dv_nf (t.1 11 6) S.2.2.2.2 S.2.2.2.2 t ((sx_uf t.1 0 3 0, t.2) : sx_S) := dv_nf_F _ hF0 (by decide)
        exact ⟨iu, dv_M_fr (Int.le_refl _) (by rw [(hF0.same 11 rfl).1]) nf (by rw [(hF0.same 33 rfl).1]) rfl rfl rfl rfl g2, g3, g4, ⟨trivial, by rw [(hF0.same 39 rfl).1]; exact g6⟩, g7, g8⟩
      have hR' : wd_R S th ((sx_uf t.1 0 3 0, t.2) : sx_S) ls := fun _ => by
        obtain ⟨r1, r2⟩ := hR trivial
        refine ⟨by rw [(hF0.same 22 rfl).1]; exact r1, fun k A hA => ?_⟩
        obtain ⟨y1, y2⟩ := r2 k A hA
        exact ⟨dv_at_fr (Int.le_refl _) (dv_nf_F (t.1 11 6) hF0 (by decide)) y1, y2⟩
      refine c_dw_nu hsL (d + 1) (by omega) S PR tm' ls _ K' hG' hS ho hrk (by omega) hR' (fun u u1 u2 u3 u4 u5 => hK' u ⟨u1, cx_F_step u2 rfl (cx_F_refl _ _), ?_, ?_⟩)
      · rw [l1] at u5
        exact wk_D_mk hI (hL c2 c3) htm hle hfr htx hB hXd hty hS ho hrk (cx_F_step u2 rfl (cx_F_step hF0 rfl (cx_F_refl _ _))) u3 u4 u5
      · refine (vl_sat_iff htx).mpr ⟨th, hS.1, fun v v0 v1 => ?_, g8.1 th hS (fun _ hp => absurd hp List.not_mem_nil)⟩
        have h1 := hS.2.1 v v0 (by have q1 : s.1 22 2 ≤ S.1 := hle.1.1; omega)
        have h2 : S.2.2.1 v = dl_ra (vl_mf l []) v := hle.2.1 v v0 (by show v < s.1 22 2; omega)
        rw [h2] at h1
        exact h1
  · exact hK _ _ (fun _ => ⟨fun _ => ⟨hI, cx_F_refl _ _, ⟨rfl, rfl⟩, fun _ => ⟨rfl, rfl⟩, fun q => absurd c q, fun q => absurd c q⟩, fun q => absurd c q, fun _ => rfl⟩)
  · exact hK _ _ (fun _ => ⟨fun _ => ⟨hI, cx_F_refl _ _, ⟨rfl, rfl⟩, fun q => absurd q c2, fun _ _ => ⟨rfl, rfl⟩, fun _ q => absurd q c3⟩, fun _ q => absurd q c3, fun _ => rfl⟩)
  · obtain ⟨a1, a2, a3⟩ := ht
    have e0 : t.1 0 = s.1 0 := (a2.same 0 rfl).1
    have e3 : ((sx_uf t.1 0 3 1, t.2) : sx_S).1 0 3 = 1 := px_uS
    have ns : ¬ vl_sat (px_SN b n) l := by
      rcases a3 with q | q
      · exact q.2
      · exact absurd q.1 (by decide)
    refine hK _ _ (fun _ => ⟨fun _ => ⟨cx_I_uf rfl rfl a1 (by omega) (by omega), cx_F_uf rfl (cx_F_step a2 rfl (cx_F_refl _ _)), ⟨?_, ?_⟩, fun q => absurd q c2, fun _ q => absurd c3 q, fun _ _ => ⟨rfl, Or.inr ⟨e3, ns⟩⟩⟩, fun _ _ q => ?_, fun q => ?_⟩)
    · show sx_uf t.1 0 3 1 0 1 = _
      rw [sx_uf_if, if_neg (by omega), e0]
    · show sx_uf t.1 0 3 1 0 2 = _
      rw [sx_uf_if, if_neg (by omega), e0]
    · rw [e3] at q
      exact absurd q (by decide)
    · exact absurd q (by omega)
  · obtain ⟨a1, a2, a3⟩ := ht
    obtain ⟨u1, u2, u3, ns⟩ := u2
    have e0 : t.1 0 = s.1 0 := (a2.same 0 rfl).1
    have eu : u.1 0 = sx_uf t.1 0 3 0 0 := (u2.same 0 rfl).1
    have e3 : u.1 0 3 = 0 := by
      rw [eu]
      exact px_us _ _ _ _
    refine hK _ _ (fun _ => ⟨fun _ => ⟨u1, cx_F_step u2 rfl (cx_F_uf rfl (cx_F_step a2 rfl (cx_F_refl _ _))), ⟨?_, ?_⟩, fun q => absurd q c2, fun _ q => absurd c3 q, fun _ _ => ⟨rfl, Or.inl ⟨e3, ns⟩⟩⟩, fun _ _ _ => u3, fun q => ?_⟩)
    · rw [eu]
      show sx_uf t.1 0 3 0 0 1 = _
      rw [sx_uf_if, if_neg (by omega), e0]
    · rw [eu]
      show sx_uf t.1 0 3 0 0 2 = _
      rw [sx_uf_if, if_neg (by omega), e0]
    · exact absurd q (by omega)
