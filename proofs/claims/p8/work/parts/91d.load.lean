/-! ===== the desk's load, with the bytes of the text ===== -/
theorem st_dk_load {sL : Nat} {sx : Nat → Int32} (hsL : sL ≤ 3072) {d : Nat} (hd : 100 ≤ d) (h_ac : ∀ (b : Nat → Int) (n : Int), ∀ (l : List ((Int × Int × qx_T) × (px_N × px_N))) (s : sx_S) (R : Int → sx_S → Prop), cx_I s → dz_TN b n s → px_TX (px_K b n) l 0 → (px_ck (px_SN b n) l [] [] 0 → ∀ t, cx_I t → (t.1 19 2 = (px_c3 3 l : Int) ∧ t.1 22 2 = (px_c3 4 l : Int) ∧ t.1 18 10 = (px_c3 5 l : Int)) → (∃ C M, dz_E b n C M t ∧ dl_pr b n (vl_eq l [] []) t ∧ t.1 11 6 ≤ 960 ∧ M = vl_mf l [] ∧ C = vl_kf l [] ∧ dw_ro M M.length t) → R 1 t) → (¬ px_ck (px_SN b n) l [] [] 0 → ∀ t, cx_I t → R 0 t) → sx_C sL sx (d + 1) 11 [.inr (.inl 18)] s R) : ∀ (a0 : Int) (s : sx_S) (K : Int → sx_S → Prop), cx_I s → (-2147483648 ≤ a0 ∧ a0 ≤ 2147483647) → (∀ (z : Int) (t : sx_S), (((a0 < 0 ∨ s.1 0 1 < a0) ∧ z = -1 ∧ t = s) ∨ ((0 ≤ a0 ∧ a0 ≤ s.1 0 1) ∧ px_an (s.2.1 1) a0 z ∧ (z = 0 → cx_I t ∧ ∃ l, px_TX (px_K (s.2.1 1) a0) l 0 ∧ px_ck (px_SN (s.2.1 1) a0) l [] [] 0 ∧ (t.1 19 2 = (px_c3 3 l : Int) ∧ t.1 22 2 = (px_c3 4 l : Int) ∧ t.1 18 10 = (px_c3 5 l : Int)) ∧ ∃ bb, (∀ k : Nat, (k : Int) < a0 → bb k = s.2.1 1 k) ∧ px_SN bb a0 = px_SN (s.2.1 1) a0 ∧ dz_E bb a0 (vl_kf l []) (vl_mf l []) t ∧ dl_pr (s.2.1 1) a0 (vl_eq l [] []) t ∧ t.1 11 6 ≤ 960 ∧ dw_ro (vl_mf l []) (vl_mf l []).length t))) → K z t) → sx_C sL sx (d + 2) 138 [.inr (.inl 0), .inl a0] s K := by
  intro a0 s K hI ra hK
  have h1 := hI.fld 0 1 (by decide) rfl
  have i1 : cx_I (sx_uf (sx_uf (sx_uf (sx_uf (sx_uf s.1 0 1 0) 0 2 0) 0 3 (-1)) 0 4 (-1)) 0 5 (-1), s.2) := cx_I_uf rfl rfl (cx_I_uf rfl rfl (cx_I_uf rfl rfl (cx_I_uf rfl rfl (cx_I_uf rfl rfl hI (by omega) (by omega)) (by omega) (by omega)) (by omega) (by omega)) (by omega) (by omega)) (by omega) (by omega)
  let bb : Nat → Int := sx_cpy s.2.1 1 3 (Int.toNat 0) (Int.toNat 0) a0.toNat 3
  have hbb : 0 ≤ a0 → ∀ k : Nat, (k : Int) < a0 → bb k = s.2.1 1 k := fun h0 k hk => by
    show (if Int.toNat 0 ≤ k ∧ k < Int.toNat 0 + a0.toNat then s.2.1 1 (Int.toNat 0 + (k - Int.toNat 0)) else s.2.1 3 k) = _
    rw [if_pos ⟨Nat.zero_le _, by show k < 0 + a0.toNat; omega⟩]
    show s.2.1 1 (0 + (k - 0)) = _
    rw [Nat.zero_add, Nat.sub_zero]
  refine sx_meth (wr := true) (n := 400) hsL (e := eX11_load) rfl (w_dl (Q := fun _ _ _ => False) (Z1 := fun t => cx_I t ∧ dz_TN bb a0 t ∧ 0 ≤ a0 ∧ a0 ≤ s.1 0 1) (Z2 := fun t => cx_I t ∧ dz_TN bb a0 t ∧ (0 ≤ a0 ∧ a0 ≤ s.1 0 1) ∧ ∃ l, px_TX (px_K bb a0) l 0) (Z3 := fun t => cx_I t ∧ (0 ≤ a0 ∧ a0 ≤ s.1 0 1) ∧ ∀ l, ¬ px_TX (px_K bb a0) l 0) (Zr := fun t => (0 ≤ a0 ∧ a0 ≤ s.1 0 1) ∧ ∃ l, px_TX (px_K bb a0) l 0 ∧ px_ck (px_SN bb a0) l [] [] 0 ∧ (t.1 19 2 = (px_c3 3 l : Int) ∧ t.1 22 2 = (px_c3 4 l : Int) ∧ t.1 18 10 = (px_c3 5 l : Int)) ∧ ∃ C M, dz_E bb a0 C M t ∧ dl_pr bb a0 (vl_eq l [] []) t ∧ t.1 11 6 ≤ 960 ∧ M = vl_mf l [] ∧ C = vl_kf l [] ∧ dw_ro M M.length t) (Zw := (0 ≤ a0 ∧ a0 ≤ s.1 0 1) ∧ ∃ l, px_TX (px_K bb a0) l 0 ∧ ¬ px_ck (px_SN bb a0) l [] [] 0) (c_dz_gpl hsL (d + 1) (by omega)) (c_dz_chp hsL (d + 1) (by omega)) (c_dz_chn hsL (d + 1) (by omega)) hI ra (fun q => hK _ _ (Or.inl ⟨q, rfl, rfl⟩)) ?_ ?_ (fun _ q => q.1) ?_ ?_ ?_ ?_)
  · intro a b K' hK'
    exact c_dx_tkread hsL (d + 1) (by omega) bb a0 a0 _ K' i1 (by omega) rfl rfl (fun z t t1 _ t3 t4 t5 => hK' z t ⟨t1, fun _ => ⟨t3, t4, t5⟩, a, b⟩)
  · rintro t ⟨t1, t2, t3, t4⟩ K' k1 k2
    have tk := (t2 trivial).2.2
    have hF : ∀ c, cx_F [(7, 7)] t ((sx_uf t.1 7 1 c, t.2) : sx_S) := fun c => cx_F_uf rfl (cx_F_refl _ _)
    have r : ∀ c : Int, 0 ≤ c → px_lv bb a0 c.toNat → c ≤ 1000 := fun c h0 hl => by
      have q1 := (px_TK_kd tk h0 hl).2.2
      have q2 := (tk trivial).1
      omega
    refine c_dg_acc hsL bb a0 (d + 1) (by omega) t K' t1 tk (fun hl c c0 cl => k1 _ ⟨cx_I_uf rfl rfl t1 ?_ ?_, fun _ => ?_, ⟨t3, t4⟩, hl⟩) (fun hl c c0 cl => k2 _ ⟨cx_I_uf rfl rfl t1 ?_ ?_, ⟨t3, t4⟩, hl⟩)
    · omega
    · have := r c c0 cl
      omega
    · exact ⟨(t2 trivial).1, (t2 trivial).2.1, px_TK_F (hF c) rfl rfl rfl rfl tk⟩
    · omega
    · have := r c c0 cl
      omega
  · rintro u ⟨_, q1, q2⟩ t
    exact hK _ _ (Or.inr ⟨q1, px_an_cg (hbb q1.1) q1.1 (Or.inl ⟨rfl, q2⟩), fun z => absurd z (by decide)⟩)
  · rintro t ⟨t1, t2, t3, l, t4⟩ K' k1 k2
    exact h_ac bb a0 l t K' t1 t2 t4 (fun q u hu hc hx => k1 u hu ⟨t3, l, t4, q, hc, hx⟩) (fun q u hu => k2 ⟨t3, l, t4, q⟩ u hu)
  · rintro u uI ⟨q1, l, q2, q3, q4, C, M, q5, q6, q7, rfl, rfl, q8⟩
    have eK := px_K_cg (hbb q1.1)
    have eS : px_SN bb a0 = px_SN (s.2.1 1) a0 := by
      funext i j
      exact propext (px_sn_cg (hbb q1.1) i.toNat j.toNat q1.1)
    have q6' : dl_pr (s.2.1 1) a0 (vl_eq l [] []) u := fun _ k p hk => by
      obtain ⟨L, R, x, a1, a2, a3, a4⟩ := q6 trivial k p hk
      refine ⟨L, R, x, a1, a2, fun _ => ?_, fun _ => ?_⟩
      · have z := a3 trivial
        rw [eS] at z
        exact z
      · have z := a4 trivial
        rw [eS] at z
        exact z
    refine hK _ _ (Or.inr ⟨q1, px_an_cg (hbb q1.1) q1.1 (Or.inr ⟨l, q2, Or.inl ⟨rfl, q3⟩⟩), fun _ => ⟨cx_I_uf rfl rfl uI (by omega) (by omega), l, by rw [← eK]; exact q2, by rw [← eS]; exact q3, q4, bb, hbb q1.1, eS, ?_, ?_, q7, ?_⟩⟩)
    · exact fun _ => q5 trivial
    · exact fun _ => q6' trivial
    · exact dw_ro_mono (u := u) (fun _ => ⟨Int.le_refl _, fun _ _ => ⟨rfl, rfl, rfl, rfl, rfl⟩⟩) ⟨Int.le_refl _, fun _ _ => rfl⟩ (fun _ => ⟨Int.le_refl _, fun _ => ⟨rfl, rfl⟩⟩) (fun _ _ => rfl) q8
  · rintro ⟨q1, l, q2, q3⟩ t
    exact hK _ _ (Or.inr ⟨q1, px_an_cg (hbb q1.1) q1.1 (Or.inr ⟨l, q2, Or.inr ⟨rfl, q3⟩⟩), fun z => absurd z (by decide)⟩)
/-- what load leaves, with the roots and the bytes of the text -/
def dk_LD (b : Nat → Int) (n : Int) (l : List vl_I) (s : sx_S) : Prop := True → dw_LD b n l s ∧ ∃ bb, (∀ k : Nat, (k : Int) < n → bb k = b k) ∧ dz_E bb n (vl_kf l []) (vl_mf l []) s
theorem dk_LD_c {b : Nat → Int} {n : Int} {l : List vl_I} {s t : sx_S} (h : ∀ p, 2 ≤ p → p ≤ 28 → t.1 p = s.1 p ∧ t.2.1 p = s.2.1 p) (g : dk_LD b n l s) : dk_LD b n l t := fun _ => by
  obtain ⟨g1, bb, g2, g3⟩ := g trivial
  exact ⟨dw_LD_c h g1, bb, g2, dz_E_c h g3⟩
theorem c_DK_load {sL : Nat} {sx : Nat → Int32} (hsL : sL ≤ 3072) (d : Nat) (hd : 170 ≤ d) : ∀ (a0 : Int) (s : sx_S) (K : Int → sx_S → Prop), cx_I s → (-2147483648 ≤ a0 ∧ a0 ≤ 2147483647) → (a0 < 0 ∨ s.1 0 1 < a0 → K (-1) s) → (0 ≤ a0 → a0 ≤ s.1 0 1 → ∀ z t, cx_I t → cx_F [(0, 28)] s t → t.1 0 1 = 0 → px_an (s.2.1 1) a0 z → ((z = 0 ∧ t.1 0 2 = 1 ∧ t.1 0 3 = -1 ∧ ∃ l, px_TX (px_K (s.2.1 1) a0) l 0 ∧ dk_LD (s.2.1 1) a0 l t) ∨ (z ≠ 0 ∧ t.1 0 2 = 0)) → K z t) → sx_C sL sx d 138 [.inr (.inl 0), .inl a0] s K := by
  intro a0 s K hI ra hN hK
  obtain ⟨d, rfl⟩ : ∃ e, d = e + 3 := ⟨d - 3, by omega⟩
  have hL : ∀ K' : Int → sx_S → Prop, (∀ (z : Int) (t : sx_S), (((a0 < 0 ∨ s.1 0 1 < a0) ∧ z = -1 ∧ t = s) ∨ ((0 ≤ a0 ∧ a0 ≤ s.1 0 1) ∧ px_an (s.2.1 1) a0 z ∧ (z = 0 → cx_I t ∧ ∃ l, px_TX (px_K (s.2.1 1) a0) l 0 ∧ px_ck (px_SN (s.2.1 1) a0) l [] [] 0 ∧ (t.1 19 2 = (px_c3 3 l : Int) ∧ t.1 22 2 = (px_c3 4 l : Int) ∧ t.1 18 10 = (px_c3 5 l : Int)) ∧ ∃ bb, (∀ k : Nat, (k : Int) < a0 → bb k = s.2.1 1 k) ∧ px_SN bb a0 = px_SN (s.2.1 1) a0 ∧ dz_E bb a0 (vl_kf l []) (vl_mf l []) t ∧ dl_pr (s.2.1 1) a0 (vl_eq l [] []) t ∧ t.1 11 6 ≤ 960 ∧ dw_ro (vl_mf l []) (vl_mf l []).length t))) → K' z t) → sx_C sL sx (d + 1 + 2) 138 [.inr (.inl 0), .inl a0] s K' := fun K' hK' => st_dk_load hsL (d := d + 1) (by omega) (fun b n => st_dw_acc hsL (d := d) (by omega) b n (fun a0 a1 s K h1 h2 h3 hK => c_nodeC hsL (d + 1) (by omega) a0 a1 s K h1 h2 h3 (fun z t t1 t2 t3 _ _ _ _ => hK z t t1 ⟨by rw [(t2.same 18 rfl).1], by rw [(t2.same 19 rfl).1], by rw [(t2.same 22 rfl).1]⟩ t3)) (fun a0 a1 s K h1 h2 h3 hK => c_completeC hsL (d + 1) (by omega) a0 a1 0 s K h1 h2 h3 (by omega) (fun z t t1 t2 t3 _ _ _ _ => hK z t t1 ⟨by rw [(t2.same 18 rfl).1], by rw [(t2.same 19 rfl).1], by rw [(t2.same 22 rfl).1]⟩ t3))) a0 s K' hI ra hK'
  have r01 := hI.fld 0 1 (by decide) rfl
  by_cases hx : 0 ≤ a0 ∧ a0 ≤ s.1 0 1
  · refine sx_bothM (e := eX11_load) rfl (c_dload3 hsL (d + 3) (by omega) a0 s (fun z t => cx_I t ∧ cx_F [(0, 28)] s t ∧ (-2147483648 ≤ z ∧ z ≤ 2147483647) ∧ t.1 0 1 = 0 ∧ (z = 0 ∧ t.1 0 2 = 1 ∧ t.1 0 3 = -1 ∨ z ≠ 0 ∧ t.1 0 2 = 0)) hI ra (fun z t t1 t2 t3 t4 => ⟨t1, t2, t3, ?_⟩)) (hL (fun z t => px_an (s.2.1 1) a0 z ∧ (z = 0 → cx_I t ∧ ∃ l, px_TX (px_K (s.2.1 1) a0) l 0 ∧ px_ck (px_SN (s.2.1 1) a0) l [] [] 0 ∧ (t.1 19 2 = (px_c3 3 l : Int) ∧ t.1 22 2 = (px_c3 4 l : Int) ∧ t.1 18 10 = (px_c3 5 l : Int)) ∧ ∃ bb, (∀ k : Nat, (k : Int) < a0 → bb k = s.2.1 1 k) ∧ px_SN bb a0 = px_SN (s.2.1 1) a0 ∧ dz_E bb a0 (vl_kf l []) (vl_mf l []) t ∧ dl_pr (s.2.1 1) a0 (vl_eq l [] []) t ∧ t.1 11 6 ≤ 960 ∧ dw_ro (vl_mf l []) (vl_mf l []).length t)) (fun z t h => ?_)) (fun z1 t1 z2 t2 k1 k2 hz hh => ?_)
    · rcases t4 with ⟨q, _⟩ | ⟨_, _, q⟩
      · omega
      · exact q
    · rcases h with ⟨q, _⟩ | ⟨_, q⟩
      · omega
      · exact q
    · obtain ⟨c1, c2, c3, c4, c5⟩ := k1
      obtain ⟨k2, k3⟩ := k2
      have hr := px_an_r k2
      have ez : z1 = z2 := sx_vo_int hz c3 (by omega)
      rw [← ez] at k2 k3
      rcases c5 with ⟨c5, c6, c7⟩ | ⟨c5, c6⟩
      · obtain ⟨q0, l, q1, q2, ⟨q3, q4, q5⟩, bb, qb, q6, q7, q8, q9, q10⟩ := k3 c5
        have o0 := sx_mg_out (a := t1) (b := t2) (Or.inl (rfl : (0 : Nat) = 0))
        refine ⟨sx_mg t1 t2, sx_mg_hp hh, rfl, hK hx.1 hx.2 z1 _ (sx_mg_I c1 q0) (sx_mg_F c2) (by rw [o0.1]; exact c4) k2 (Or.inl ⟨c5, by rw [o0.1]; exact c6, by rw [o0.1]; exact c7, l, q1, ?_⟩)⟩
        exact dk_LD_c (fun p h1 h2 => sx_mg_in (by omega) h2) (fun _ => ⟨fun _ => ⟨dl_LD_mk ⟨hx.1, by omega⟩ q1 q2 q5 q7 q8 q9, q10⟩, bb, qb, q7⟩)
      · exact ⟨t1, rfl, rfl, hK hx.1 hx.2 z1 t1 c1 c2 c4 k2 (Or.inr ⟨c5, c6⟩)⟩
  · refine hL K (fun z t h => ?_)
    rcases h with ⟨q1, q2, q3⟩ | ⟨q, _⟩
    · rw [q2, q3]
      exact hN q1
    · exact absurd q hx
