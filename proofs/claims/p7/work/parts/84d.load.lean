/-! ===== the desk's load, with the roots ===== -/
theorem st_dw_load {sL : Nat} {sx : Nat → Int32} (hsL : sL ≤ 3072) {d : Nat} (hd : 100 ≤ d) (h_ac : ∀ (b : Nat → Int) (n : Int), ∀ (l : List ((Int × Int × qx_T) × (px_N × px_N))) (s : sx_S) (R : Int → sx_S → Prop), cx_I s → dz_TN b n s → px_TX (px_K b n) l 0 → (px_ck (px_SN b n) l [] [] 0 → ∀ t, cx_I t → (t.1 19 2 = (px_c3 3 l : Int) ∧ t.1 22 2 = (px_c3 4 l : Int) ∧ t.1 18 10 = (px_c3 5 l : Int)) → (∃ C M, dz_E b n C M t ∧ dl_pr b n (vl_eq l [] []) t ∧ t.1 11 6 ≤ 960 ∧ M = vl_mf l [] ∧ C = vl_kf l [] ∧ dw_ro M M.length t) → R 1 t) → (¬ px_ck (px_SN b n) l [] [] 0 → ∀ t, cx_I t → R 0 t) → sx_C sL sx (d + 1) 11 [.inr (.inl 18)] s R) : ∀ (a0 : Int) (s : sx_S) (K : Int → sx_S → Prop), cx_I s → (-2147483648 ≤ a0 ∧ a0 ≤ 2147483647) → (∀ (z : Int) (t : sx_S), (((a0 < 0 ∨ s.1 0 1 < a0) ∧ z = -1 ∧ t = s) ∨ ((0 ≤ a0 ∧ a0 ≤ s.1 0 1) ∧ px_an (s.2.1 1) a0 z ∧ (z = 0 → cx_I t ∧ ∃ l, px_TX (px_K (s.2.1 1) a0) l 0 ∧ px_ck (px_SN (s.2.1 1) a0) l [] [] 0 ∧ (t.1 19 2 = (px_c3 3 l : Int) ∧ t.1 22 2 = (px_c3 4 l : Int) ∧ t.1 18 10 = (px_c3 5 l : Int)) ∧ ∃ bb, px_SN bb a0 = px_SN (s.2.1 1) a0 ∧ dz_E bb a0 (vl_kf l []) (vl_mf l []) t ∧ dl_pr (s.2.1 1) a0 (vl_eq l [] []) t ∧ t.1 11 6 ≤ 960 ∧ dw_ro (vl_mf l []) (vl_mf l []).length t))) → K z t) → sx_C sL sx (d + 2) 138 [.inr (.inl 0), .inl a0] s K := by
  intro a0 s K hI ra hK
  have h1 := hI.fld 0 1 (by decide) rfl
  have i1 : cx_I (sx_uf (sx_uf (sx_uf (sx_uf (sx_uf s.1 0 1 0) 0 2 0) 0 3 (-1)) 0 4 (-1)) 0 5 (-1), s.2) := cx_I_uf rfl rfl (cx_I_uf rfl rfl (cx_I_uf rfl rfl (cx_I_uf rfl rfl (cx_I_uf rfl rfl hI (by omega) (by omega)) (by omega) (by omega)) (by omega) (by omega)) (by omega) (by omega)) (by omega) (by omega)
  let bb : Nat → Int := sx_cpy s.2.1 1 3 (Int.toNat 0) (Int.toNat 0) a0.toNat 3
  have hbb : 0 ≤ a0 → ∀ k : Nat, (k : Int) < a0 → bb k = s.2.1 1 k := fun h0 k hk => by
    show (if Int.toNat 0 ≤ k ∧ k < Int.toNat 0 + a0.toNat then s.2.1 1 (Int.toNat 0 + (k - Int.toNat 0)) else s.2.1 3 k) = _
    rw [if_pos ⟨Nat.zero_le _, by show k < 0 + a0.toNat; omega⟩]
    show s.2.1 1 (0 + (k - 0)) = _
    rw [Nat.zero_add, Nat.sub_zero]
  refine sx_meth (wr := true) (n := 400) hsL (e := eX11_load) rfl (w_dl (Q := fun _ _ _ => False) (Z1 := fun t => cx_I t ∧ dz_TN bb a0 t ∧ 0 ≤ a0 ∧ a0 ≤ s.1 0 1) (Z2 := fun t => cx_I t ∧ dz_TN bb a0 t ∧ (0 ≤ a0 ∧ a0 ≤ s.1 0 1) ∧ ∃ l, px_TX (px_K bb a0) l 0) (Z3 := fun t => cx_I t ∧ (0 ≤ a0 ∧ a0 ≤ s.1 0 1) ∧ ∀ l, ¬ px_TX (px_K bb a0) l 0) (Zr := fun t => (0 ≤ a0 ∧ a0 ≤ s.1 0 1) ∧ ∃ l, px_TX (px_K bb a0) l 0 ∧ px_ck (px_SN bb a0) l [] [] 0 ∧ (t.1 19 2 = (px_c3 3 l : Int) ∧ t.1 22 2 = (px_c3 4 l : Int) ∧ t.1 18 10 = (px_c3 5 l : Int)) ∧ ∃ C M, dz_E bb a0 C M t ∧ dl_pr bb a0 (vl_eq l [] []) t ∧ t.1 11 6 ≤ 960 ∧ M = vl_mf l [] ∧ C = vl_kf l [] ∧ dw_ro M M.length t) (Zw := (0 ≤ a0 ∧ a0 ≤ s.1 0 1) ∧ ∃ l, px_TX (px_K bb a0) l 0 ∧ ¬ px_ck (px_SN bb a0) l [] [] 0) (c_dz_gpl hsL (d + 1) (by omega)) (c_dz_chp hsL (d + 1) (by omega)) (c_dz_chn hsL (d + 1) (by omega)) hI ra (fun q => hK _ _ (Or.inl ⟨q, rfl, rfl⟩)) ?_ ?_ (fun _ q => q.1) ?_ ?_ ?_ ?_)
  · intro a b K' hK'
    exact c_dx_tkread hsL (d + 1) (by omega) bb a0 a0 _ K' i1 (by omega) rfl rfl (fun z t t1 _ t3 t4 t5 => hK' z t ⟨t1, fun _ => ⟨t3, t4, t5⟩, a, b⟩)
  · rintro t ⟨t1, t2, t3, t4⟩ K' k1 k2
    have tk := (t2 trivial).2.2
    have hF : ∀ c, cx_F [(7, 7)] t ((sx_uf t.1 7 1 c, t.2) : sx_S) := fun c => cx_F_uf rfl (cx_F_refl _ _)
    have r : ∀ c : Int, 0 ≤ c → px_lv bb a0 c.toNat → c ≤ 1000 := fun c h0 hl => by
      have q1 := (px_TK_kd tk h0 hl).2.2
      have q2 := (tk trivial).1
      omega
    refine c_dg_acc hsL bb a0 (d + 1) (by omega) t K' t1 tk (fun hl c c0 cl => k1 _ ⟨cx_I_uf rfl rfl t1 ?_ ?_, fun _ => ?_, ⟨t3, t4⟩, hl⟩) (fun hl c c0 cl => k2 _ ⟨cx_I_uf rfl rfl t1 ?_ ?_, ⟨t3, t4⟩, hl⟩)
    · omega
    · have := r c c0 cl
      omega
    · exact ⟨(t2 trivial).1, (t2 trivial).2.1, px_TK_F (hF c) rfl rfl rfl rfl tk⟩
    · omega
    · have := r c c0 cl
      omega
  · rintro u ⟨_, q1, q2⟩ t
    exact hK _ _ (Or.inr ⟨q1, px_an_cg (hbb q1.1) q1.1 (Or.inl ⟨rfl, q2⟩), fun z => absurd z (by decide)⟩)
  · rintro t ⟨t1, t2, t3, l, t4⟩ K' k1 k2
    exact h_ac bb a0 l t K' t1 t2 t4 (fun q u hu hc hx => k1 u hu ⟨t3, l, t4, q, hc, hx⟩) (fun q u hu => k2 ⟨t3, l, t4, q⟩ u hu)
  · rintro u uI ⟨q1, l, q2, q3, q4, C, M, q5, q6, q7, rfl, rfl, q8⟩
    have eK := px_K_cg (hbb q1.1)
    have eS : px_SN bb a0 = px_SN (s.2.1 1) a0 := by
      funext i j
      exact propext (px_sn_cg (hbb q1.1) i.toNat j.toNat q1.1)
    have q6' : dl_pr (s.2.1 1) a0 (vl_eq l [] []) u := fun _ k p hk => by
      obtain ⟨L, R, x, a1, a2, a3, a4⟩ := q6 trivial k p hk
      refine ⟨L, R, x, a1, a2, fun _ => ?_, fun _ => ?_⟩
      · have z := a3 trivial
        rw [eS] at z
        exact z
      · have z := a4 trivial
        rw [eS] at z
        exact z
    refine hK _ _ (Or.inr ⟨q1, px_an_cg (hbb q1.1) q1.1 (Or.inr ⟨l, q2, Or.inl ⟨rfl, q3⟩⟩), fun _ => ⟨cx_I_uf rfl rfl uI (by omega) (by omega), l, by rw [← eK]; exact q2, by rw [← eS]; exact q3, q4, bb, eS, ?_, ?_, q7, ?_⟩⟩)
    · exact fun _ => q5 trivial
    · exact fun _ => q6' trivial
    · exact dw_ro_mono (u := u) (fun _ => ⟨Int.le_refl _, fun _ _ => ⟨rfl, rfl, rfl, rfl, rfl⟩⟩) ⟨Int.le_refl _, fun _ _ => rfl⟩ (fun _ => ⟨Int.le_refl _, fun _ => ⟨rfl, rfl⟩⟩) (fun _ _ => rfl) q8
  · rintro ⟨q1, l, q2, q3⟩ t
    exact hK _ _ (Or.inr ⟨q1, px_an_cg (hbb q1.1) q1.1 (Or.inr ⟨l, q2, Or.inr ⟨rfl, q3⟩⟩), fun z => absurd z (by decide)⟩)
/-- what load leaves, with the roots -/
def dw_LD (b : Nat → Int) (n : Int) (l : List vl_I) (s : sx_S) : Prop := True → dl_LD b n l s ∧ dw_ro (vl_mf l []) (vl_mf l []).length s
theorem dw_LD_F {b : Nat → Int} {n : Int} {l : List vl_I} {s t : sx_S} (hE : ∀ bb C M, dz_E bb n C M s → dz_E bb n C M t) (h11 : t.1 11 = s.1 11) (h12 : ∀ k, 12 ≤ k → k ≤ 17 → t.2.1 k = s.2.1 k) (h25 : t.2.1 25 = s.2.1 25) (h26 : t.2.1 26 = s.2.1 26) (h18 : t.1 18 10 = s.1 18 10) (hu : dx_tu s t) (h : dw_LD b n l s) : dw_LD b n l t := fun _ => by
  obtain ⟨h1, h2⟩ := h trivial
  refine ⟨dl_LD_F hE h11 h12 h26 h18 hu h1, dw_ro_mono (fun _ => ⟨by rw [h11]; exact Int.le_refl _, fun j _ => ?_⟩) ⟨by rw [h11]; exact Int.le_refl _, fun j _ => by rw [h12 17 (by decide) (by decide)]⟩ hu (fun j _ => by rw [h25]) h2⟩
  rw [h12 12 (by decide) (by decide), h12 13 (by decide) (by decide), h12 14 (by decide) (by decide), h12 15 (by decide) (by decide), h12 16 (by decide) (by decide)]
  exact ⟨rfl, rfl, rfl, rfl, rfl⟩
