/-! ===== the reference: the values of its unknowns have types ===== -/
/-- a variable's type, in the body of the unknown x -/
def wr_V (ib : Int) (u : sx_S) (x v : Int) (T : rf_T) : Prop := rf_vb ib u v T ∨ rf_Nx u x v T
noncomputable def wr_tv (ib : Int) (u : sx_S) (x v : Int) : rf_T := @dite rf_T (∃ T, wr_V ib u x v T) (Classical.propDecidable _) (fun h => Classical.choose h) (fun _ => .leaf)
noncomputable def wr_tm (u : sx_S) (m i : Int) : rf_T := wy_T u m i.toNat
theorem wr_ht (u : sx_S) : wy_ht u = wk_ht (wr_tm u) := by
  funext h
  unfold wy_ht wk_ht
  refine List.map_congr_left (fun i _ => ?_)
  show wy_T u (-1 - h) i = wy_T u (-1 - h) ((i : Int)).toNat
  rw [Int.toNat_natCast]
theorem wr_V_inj {ib : Int} {u : sx_S} {x v : Int} {T T' : rf_T} (hn : ∀ p q : Nat, (p : Int) < rf_aa u x → (q : Int) < rf_aa u x → rf_fm u x p = rf_fm u x q → p = q) (a : wr_V ib u x v T) (b : wr_V ib u x v T') : T = T' := by
  rcases a with a | ⟨a1, q, a2, a3, a4⟩
  · rcases b with b | ⟨b1, q', b2, b3, b4⟩
    · exact rf_vb_inj a b
    · have := a.1.1
      omega
  · rcases b with b | ⟨b1, q', b2, b3, b4⟩
    · have := b.1.1
      omega
    · obtain rfl := hn q q' a2 b2 (a3.symm.trans b3)
      exact rf_py_inj a4 b4
theorem wr_tv_at {ib : Int} {u : sx_S} {x v : Int} {T : rf_T} (hn : ∀ p q : Nat, (p : Int) < rf_aa u x → (q : Int) < rf_aa u x → rf_fm u x p = rf_fm u x q → p = q) (h : wr_V ib u x v T) : wr_tv ib u x v = T := by
  have hx : ∃ T, wr_V ib u x v T := ⟨T, h⟩
  unfold wr_tv
  rw [dif_pos hx]
  exact wr_V_inj hn (Classical.choose_spec hx) h
theorem wr_tm_at {u : sx_S} {m : Int} {q : Nat} {T : rf_T} (h : rf_py u m q T) : wr_tm u m (q : Int) = T := by
  have hx : ∃ T, rf_py u m q T := ⟨T, h⟩
  unfold wr_tm
  rw [Int.toNat_natCast]
  unfold wy_T
  rw [dif_pos hx]
  exact rf_py_inj (Classical.choose_spec hx) h
theorem vr_1_sg : ∀ {A : rf_N}, A ≠ .leaf → vx_sg (vr_1 A)
  | .leaf, h => absurd rfl h
  | .inner j q _ f _, _ => ⟨j, q.1, q.2, vr_f q.1 f, rfl⟩
/-- a tree's type, as the values' types want it -/
theorem wr_ty {ib : Int} {u : sx_S} {g : rf_Gh} {x : Int} {AR : Nat → List Int} {tc : Int → rf_T} {nC : Int} (hI : cx_I u) (hn : ∀ p q : Nat, (p : Int) < rf_aa u x → (q : Int) < rf_aa u x → rf_fm u x p = rf_fm u x q → p = q) (hC : ∀ r : Int, 0 ≤ r → r < u.1 66 42 → rf_is u (tc r) (u.2.1 96 r.toNat)) (e42 : u.1 66 42 = nC) : ∀ {A : rf_N}, (∀ t, vr_t u AR A → (rf_gt (rf_Hn ib u (rf_Nx u x)) rf_P A).1 t → (vx_ty (wr_tv ib u x) tc (wr_tm u) AR (vr_1 A)).1 t ∧ wt_t (vr_S u g AR) nC (vr_1 A)) ∧ (∀ w, vr_r u AR A → (rf_gt (rf_Hn ib u (rf_Nx u x)) rf_P A).2 w rf_b → (vx_ty (wr_tv ib u x) tc (wr_tm u) AR (vr_c A)).2 w ∧ wt_t (vr_S u g AR) nC (vr_c A))
  | .leaf => ⟨fun _ h => h.elim, fun _ _ h => ⟨h, trivial⟩⟩
  | .inner j k z f X => by
    have hf := wr_ty (ib := ib) (g := g) (AR := AR) hI hn hC e42 (A := f)
    have hX := wr_ty (ib := ib) (g := g) (AR := AR) hI hn hC e42 (A := X)
    have key : ∀ t, vr_t u AR (.inner j k z f X) → ((k.1 = 0 ∧ ∃ A B, t = rf_a A B ∧ rf_Hn ib u (rf_Nx u x) j k.1 k.2 A ∧ (rf_gt (rf_Hn ib u (rf_Nx u x)) rf_P f).1 B) ∨ (k.1 ≠ 0 ∧ ∃ w, rf_Hn ib u (rf_Nx u x) j k.1 k.2 w ∧ (rf_gt (rf_Hn ib u (rf_Nx u x)) rf_P f).2 w t ∧ rf_P j t)) → (vx_ty (wr_tv ib u x) tc (wr_tm u) AR (.inner j k () (vr_f k.1 f) .leaf)).1 t ∧ ((k.1 = 0 ∧ vx_sg (vr_f k.1 f) ∧ wt_t (vr_S u g AR) nC (vr_f k.1 f)) ∨ (k.1 = 1 ∧ (0 ≤ k.2 ∧ k.2 < nC) ∧ wt_t (vr_S u g AR) nC (vr_f k.1 f)) ∨ (k.1 = 2 ∧ wt_t (vr_S u g AR) nC (vr_f k.1 f)) ∨ (k.1 = 3 ∧ 0 ≤ k.2 ∧ ((AR j).length : Int) = vr_ar u k.2 ∧ (AR j).length ≤ 4)) := by
      rintro t ⟨hj, h⟩ hg
      rcases h with ⟨k0, h⟩ | ⟨k3, hb, hq⟩ | ⟨k2, h⟩
      · rw [vr_f_0 k0]
        rcases hg with ⟨_, A, B, e1, e2, e3⟩ | ⟨c, _⟩
        · have hv : rf_vb ib u k.2 A := by
            rcases e2 with ⟨_, e⟩ | ⟨c, _⟩ | ⟨c, _⟩ | ⟨c, _⟩
            · exact e
            · omega
            · omega
            · omega
          obtain ⟨y1, y2⟩ := hf.1 B h e3
          have eT := wr_tv_at hn (Or.inl hv)
          exact ⟨Or.inl ⟨k0, B, by rw [eT]; exact e1, y1⟩, Or.inl ⟨k0, vr_1_sg (vr_t_ne h), y2⟩⟩
        · exact absurd k0 c
      · rw [vr_f_3 k3]
        rcases hg with ⟨c, _⟩ | ⟨_, w, e1, e2, e3⟩
        · omega
        · rcases e1 with ⟨c, _⟩ | ⟨c, _⟩ | ⟨c, _⟩ | ⟨_, _, hr, _, hpy⟩
          · omega
          · omega
          · omega
          · have l4 := vr_aa0 hI k.2
            have el : (AR j).length = (rf_aa u k.2).toNat := by
              rw [hq]
              exact vr_gl
            refine ⟨Or.inr (Or.inr (Or.inr ⟨k3, e3, fun i y hy => ?_⟩)), Or.inr (Or.inr (Or.inr ⟨k3, hr.1, ?_, by omega⟩))⟩
            · rw [hq] at hy
              obtain ⟨i1, i2⟩ := vr_gr.mp hy
              obtain ⟨x', p1, p2⟩ := hpy i (by omega)
              rw [i2, wr_tv_at hn p2, wr_tm_at p1]
            · rw [el, vr_ar_at hr]
              omega
      · rw [vr_f_2 k2]
        rcases hg with ⟨c, _⟩ | ⟨_, w, e1, e2, e3⟩
        · omega
        · have e3' : t = rf_b := e3
          rw [e3'] at e2
          obtain ⟨y1, y2⟩ := hf.2 w h e2
          rcases k2 with k1 | k2
          · have hc : (0 ≤ k.2 ∧ k.2 < u.1 66 42) ∧ rf_is u w (u.2.1 96 k.2.toNat) := by
              rcases e1 with ⟨c, _⟩ | ⟨_, e⟩ | ⟨c, _⟩ | ⟨c, _⟩
              · omega
              · exact e
              · omega
              · omega
            have ew : w = tc k.2 := rf_ty_inj hc.2 (hC k.2 hc.1.1 hc.1.2)
            rw [ew] at y1
            exact ⟨Or.inr (Or.inl ⟨k1, e3', y1⟩), Or.inr (Or.inl ⟨k1, ⟨hc.1.1, by omega⟩, y2⟩)⟩
          · have hv : rf_vb ib u k.2 w := by
              rcases e1 with ⟨c, _⟩ | ⟨c, _⟩ | ⟨_, e⟩ | ⟨c, _⟩
              · omega
              · omega
              · exact e
              · omega
            have eT := wr_tv_at hn (Or.inl hv)
            exact ⟨Or.inr (Or.inr (Or.inl ⟨k2, e3', by rw [eT]; exact y1⟩)), Or.inr (Or.inr (Or.inl ⟨k2, y2⟩))⟩
    refine ⟨fun t h hg => ?_, fun w h hg => ?_⟩
    · rw [vr_1_in]
      obtain ⟨a, b⟩ := key t h hg
      exact ⟨a, b, trivial⟩
    · obtain ⟨A, B, e, g1, g2⟩ := hg
      obtain ⟨a, b⟩ := key A h.1 g1
      obtain ⟨x1, x2⟩ := hX.2 B h.2 g2
      rw [vr_c_in]
      exact ⟨⟨A, B, e, a, x1⟩, b, x2⟩
theorem wr_fo {ib : Int} {u : sx_S} {x : Int} {U : Int → Nat → Prop} (hU : ∀ m (q : Nat), 0 ≤ m → m < u.1 66 61 → U m q → (q : Int) < rf_aa u m) {v : Int} : ∀ {A : rf_N}, (∀ t, (rf_gt (rf_Hn ib u (rf_Nx u x)) rf_P A).1 t → (rf_fo (rf_Wd u U) A).1 v → ∃ T, wr_V ib u x v T) ∧ (∀ w t, (rf_gt (rf_Hn ib u (rf_Nx u x)) rf_P A).2 w t → (rf_fo (rf_Wd u U) A).2 v → ∃ T, wr_V ib u x v T)
  | .leaf => ⟨fun _ h => h.elim, fun _ _ _ h => h.elim⟩
  | .inner j k z f X => by
    have hf := wr_fo (ib := ib) (x := x) hU (v := v) (A := f)
    have hX := wr_fo (ib := ib) (x := x) hU (v := v) (A := X)
    have key : ∀ t, (rf_gt (rf_Hn ib u (rf_Nx u x)) rf_P (.inner j k z f X)).1 t → (rf_fo (rf_Wd u U) (.inner j k z f X)).1 v → ∃ T, wr_V ib u x v T := by
      intro t hg hv
      rcases hg with ⟨k0, A, B, e1, e2, e3⟩ | ⟨k0, w, e1, e2, e3⟩
      · rcases hv with ⟨c, _⟩ | ⟨_, _, h⟩ | ⟨c, _⟩
        · omega
        · exact hf.1 B e3 h
        · omega
      · rcases hv with ⟨c, q, q1, q2⟩ | ⟨c, _⟩ | ⟨c, h⟩
        · rcases e1 with ⟨c', _⟩ | ⟨c', _⟩ | ⟨c', _⟩ | ⟨_, _, hr, _, hpy⟩
          · omega
          · omega
          · omega
          · obtain ⟨T, _, p2⟩ := hpy q (hU _ q hr.1 hr.2 q1)
            exact ⟨T, by rw [q2]; exact p2⟩
        · exact absurd c k0
        · rcases h with ⟨c2, ev⟩ | h
          · rcases e1 with ⟨c', _⟩ | ⟨c', _⟩ | ⟨_, hv⟩ | ⟨c', _⟩
            · omega
            · omega
            · exact ⟨w, Or.inl (by rw [ev]; exact hv)⟩
            · omega
          · exact hf.2 w t e2 h
    refine ⟨key, fun w t hg hv => ?_⟩
    obtain ⟨A, B, e, g1, g2⟩ := hg
    rcases hv with hv | hv
    · exact key A g1 hv
    · exact hX.2 B t g2 hv
/-- what is known of the bodies -/
theorem wr_B {nb ib : Int} {u : sx_S} {g : rf_Gh} {AR : Nat → List Int} {tc : Int → rf_T} {nC : Int} (hI : cx_I u) (hM : rf_MI nb ib u g) (hG : vr_G u g AR) (hC : ∀ r : Int, 0 ≤ r → r < u.1 66 42 → rf_is u (tc r) (u.2.1 96 r.toNat)) (e42 : u.1 66 42 = nC) : wt_B tc (wr_tm u) (vr_S u g AR) (vr_U g) nC := fun _ => by
  refine ⟨fun m i h1 h2 h3 => (vr_cl hM hG).1 m i h1 h2 h3, fun m B e hb => ?_⟩
  have hW := vr_W hI hG m B e hb
  obtain ⟨h1, h2, rfl, rfl⟩ := vr_bo_some hb
  have hMX := hM.1 m h1.1 h1.2
  have hSV := hMX.2.2.2 h2
  have hG1 := hG m h1.1 h1.2 h2
  have hn := hSV.2.2.1.2.2.2
  obtain ⟨ty, tt⟩ := (wr_ty (g := g) hI hn hC e42).1 .leaf hG1 hSV.1.2.1
  refine ⟨wr_tv ib u m, ⟨vr_1_sg (vr_t_ne hG1), ty, tt⟩, hW.2.2, fun z hz => ?_⟩
  have hz' := (vr_fv (s := u) (AR := AR) (V := vr_U g) (U := g.2.2) (fun m i _ ⟨q, q1, q2⟩ => by rw [show i = q by omega]; exact q2)).1 hG1 hz
  obtain ⟨q, q1, q2⟩ := hSV.2.2.2.1 z hz'
  have qa := hMX.2.1 q q1
  have ez := vr_e_at hn qa q2
  obtain ⟨T, hT⟩ := (wr_fo (ib := ib) (x := m) (fun m' q' a b c => (hM.1 m' a b).2.1 q' c)).1 _ hSV.1.2.1 hz'
  have key : rf_py u m q T := by
    rcases hT with hT | ⟨z0, q', a1, a2, a3⟩
    · have hl := hSV.2.1.2.2.1 z T (Or.inl hT)
      rw [q2] at hl
      rcases hSV.2.2.1.2.1 q qa with ⟨T', p1, p2⟩ | c
      · rw [rf_vb_inj hl p2]
        exact p1
      · have := hl.1.1
        omega
    · rcases hSV.2.2.1.2.2.1 with ⟨y1, _⟩ | y
      · rw [y1] at q2
        have q3 : z = rf_fm u m q := q2
        obtain rfl := hn q q' qa a1 (q3.symm.trans a2)
        exact a3
      · have := y q' a1
        omega
  rw [ez]
  refine ⟨⟨q, rfl, q1⟩, by omega, ?_⟩
  rw [wr_tv_at hn hT, wr_tm_at key]
theorem wr_th {nb ib : Int} {u : sx_S} {g : rf_Gh} {AR : Nat → List Int} {tc : Int → rf_T} {nC : Int} {th : Int → rf_N} (hI : cx_I u) (hM : rf_MI nb ib u g) (hG : vr_G u g AR) (hC : ∀ r : Int, 0 ≤ r → r < u.1 66 42 → rf_is u (tc r) (u.2.1 96 r.toNat)) (e42 : u.1 66 42 = nC) (hS : vx_So (vr_S u g AR) th) (ho : ∀ v, (vr_S u g AR).2.2.2.1 v = none → th v = vx_gn (vr_ar u) v) {m : Int} (m0 : 0 ≤ m) {Γ : Int → rf_T} (hΓ : ∀ i : Nat, (i : Int) < vr_ar u m → Γ (i : Int) = wr_tm u m (i : Int)) : (wt tc nC (wy_ht u) (th m)).1 Γ (vr_ar u m) rf_b := by
  have hB := wr_B hI hM hG hC e42
  have a0 := vr_ar0 hI m
  have a4 : vr_ar u m ≤ 4 := by
    unfold vr_ar
    by_cases c : 0 ≤ m ∧ m < u.1 66 61
    · rw [if_pos c]
      exact (vr_aa0 hI m).2
    · rw [if_neg c]
      decide
  rw [wr_ht]
  cases hb : (vr_S u g AR).2.2.2.1 m with
  | none =>
    rw [ho m hb]
    obtain ⟨_, v2, v3⟩ := wz_vs (vr_ar u m).toNat 0
    refine Or.inr (Or.inl ⟨⟨rfl, by show -1 - m < 0; omega⟩, rfl, fun i y hy => ?_⟩)
    have hy' : (dz_hs (vx_vs (vr_ar u m).toNat 0))[i]? = some y := hy
    have hi : i < (vr_ar u m).toNat := by
      rw [← v2]
      exact (List.getElem?_eq_some_iff.mp hy').1
    rw [v3 i hi] at hy'
    have ey : (0 : Int) + (i : Int) = y := Option.some.inj hy'
    rw [← ey, Int.zero_add]
    refine ⟨?_, by omega⟩
    show (wk_ht (wr_tm u) (-1 - m)).getD i .leaf = _
    rw [wk_ht_at (by omega)]
    exact (hΓ i (by omega)).symm
  | some p =>
    obtain ⟨B, e⟩ := p
    have hv := hS.2.2 m B e hb
    obtain ⟨tv, ⟨sB, yB, tB⟩, hlt, hfB⟩ := (hB trivial).2 m B e hb
    have w := (wt_se hS ho (vr_rk hI hM hG) hB _ B (fun m' hm => vr_rk hI hM hG m B e m' hb hm) tB).1 tv e (vr_ar u m) Γ rf_b (vx_sg_1 sB).1 a0 (by rw [(vx_sg_1 sB).2]; exact yB) (fun z hz => by
      rw [(vx_sg_1 sB).2] at hz
      obtain ⟨u1, u2, u3⟩ := hfB z hz
      have u4 : e z < vr_ar u m := hlt z
      refine ⟨⟨u2, u4⟩, ?_⟩
      have h := hΓ (e z).toNat (by omega)
      rw [Int.toNat_of_nonneg u2] at h
      rw [u3]
      exact h.symm)
    rw [(vx_sg_1 sB).2] at w
    rw [hv]
    exact w
/-- \ over a value -/
theorem wt_lm {tc : Int → rf_T} {nC : Int} {ht : Int → List rf_T} {v : rf_N} {l r : Nat → Int} {N : Int} (hon : vx_on v) : ∀ (n : Nat) (x : rf_T) (t : Int) (Γ : Int → rf_T) (L : Int), rf_ty l r N x t → (rf_args x).length = n → (∀ Γ' : Int → rf_T, (∀ i, i < L → Γ' i = Γ i) → (∀ (i : Nat) T, (rf_args x)[i]? = some T → Γ' (L + (i : Int)) = T) → (wt tc nC ht v).1 Γ' (L + (n : Int)) rf_b) → (wt tc nC ht (vq_lm n v)).1 Γ L x
  | 0, .leaf, t, Γ, L, _, _, h => by
    have := h Γ (fun _ _ => rfl) (fun i T hT => by cases hT)
    rw [show L + ((0 : Nat) : Int) = L by omega] at this
    exact this
  | 0, .inner _ _ _ _ _, _, _, _, _, e, _ => by
    exfalso
    exact absurd e (Nat.succ_ne_zero _)
  | n + 1, .leaf, _, _, _, _, e, _ => by
    exfalso
    exact absurd e.symm (Nat.succ_ne_zero _)
  | n + 1, .inner z () () A B, t, Γ, L, hy, e, h => by
    obtain ⟨⟨z0, _, _⟩, _, yB⟩ := hy
    subst z0
    have e' : (rf_args B).length = n := Nat.succ.inj e
    have ih := wt_lm (tc := tc) (nC := nC) (ht := ht) hon n B _ (fun l => if l = L then A else Γ l) (L + 1) yB e' (fun Γ' g1 g2 => by
      have := h Γ' (fun i hi => by
        rw [g1 i (by omega)]
        show (if i = L then A else Γ i) = Γ i
        rw [if_neg (by omega)]) (fun i T hT => by
        cases i with
        | zero =>
          have eA : A = T := Option.some.inj hT
          rw [show L + ((0 : Nat) : Int) = L by omega, g1 L (by omega), ← eA]
          show (if L = L then A else Γ L) = A
          rw [if_pos rfl]
        | succ i =>
          have := g2 i T hT
          rw [show L + ((i + 1 : Nat) : Int) = L + 1 + (i : Int) by omega]
          exact this)
      rw [show L + ((n + 1 : Nat) : Int) = L + 1 + (n : Int) by omega] at this
      exact this)
    exact Or.inl ⟨rfl, vq_lm_on hon n, A, B, rfl, ih⟩
/-- the unknowns' values are of their types -/
theorem wr_roots {nb ib : Int} {u : sx_S} {g : rf_Gh} {AR : Nat → List Int} {th : Int → rf_N} {C M : List (Int × qx_T)} {mt mt' : Int} (hI : cx_I u) (hM : rf_MI nb ib u g) (hG : vr_G u g AR) (hS : vx_So (vr_S u g AR) th) (ho : ∀ v, (vr_S u g AR).2.2.2.1 v = none → th v = vx_gn (vr_ar u) v) (hC : px_DL 95 96 42 mt u C) (hD : px_DL 97 123 45 mt' u M) (h9 : 2 ≤ u.1 66 9) (hU : rf_UK u) (k : Nat) (p : Int × qx_T) (hp : M[k]? = some p) : (wt (dl_tc C) (C.length : Int) (wy_ht u) (vq_lm (rf_args (qx_sh p.2)).length (th (k : Int)))).1 (fun _ => rf_b) 0 (qx_sh p.2) := by
  obtain ⟨c1, c2⟩ := hC trivial
  obtain ⟨d1, d2⟩ := hD trivial
  have hk : k < M.length := (List.getElem?_eq_some_iff.mp hp).1
  have tcs : ∀ r : Int, 0 ≤ r → r < u.1 66 42 → rf_is u (dl_tc C r) (u.2.1 96 r.toNat) := fun r r0 r1 => by
    obtain ⟨e, e1, _, _, e4⟩ := c2 r.toNat (by omega)
    have : dl_tc C r = qx_sh e.2 := by
      unfold dl_tc
      rw [e1]
      rfl
    rw [this]
    exact qx_ty_sh h9 e4
  obtain ⟨e, e1, _, _, e4⟩ := d2 k hk
  rw [hp] at e1
  have ep : p = e := Option.some.inj e1
  subst ep
  obtain ⟨x, x1, _, x3, x4⟩ := hU.2 (k : Int) (by omega) (by omega)
  rw [Int.toNat_natCast] at x1
  have hty : rf_is u (qx_sh p.2) (u.2.1 123 k) := qx_ty_sh h9 e4
  have ex : x = qx_sh p.2 := rf_ty_inj x1 hty
  subst ex
  have k61 : (k : Int) < u.1 66 61 := by
    have := hU.1
    omega
  have ea := vr_ar_at (s := u) (u := (k : Int)) ⟨by omega, k61⟩
  refine wt_lm (hS.1 _).1 _ _ _ _ _ hty rfl (fun Γ' _ hΓ => ?_)
  have w := wr_th (tc := dl_tc C) (Γ := Γ') hI hM hG tcs c1.symm hS ho (m := (k : Int)) (by omega) (fun i hi => by
    have hi' : i < (rf_args (qx_sh p.2)).length := by omega
    have hT := List.getElem?_eq_getElem hi'
    have h1 := hΓ i _ hT
    rw [Int.zero_add] at h1
    rw [h1, wr_tm_at (x4 i _ hT)])
  rw [ea, x3] at w
  rw [Int.zero_add]
  exact w
/-! rows of what the reference has numbered -/
theorem wz_ok_oc {n : Int} {ar : Int → Int} {x : Int} : ∀ {A : rf_N}, wz_ok n ar A → wz_oc x A → ∃ m, x = -1 - m ∧ 0 ≤ m ∧ m < n
  | .leaf, _, h => h.elim
  | .inner j q u F X, h, ho => by
    obtain ⟨h1, h2, _⟩ := wz_ok_in.mp h
    rcases wz_oc_in.mp ho with c | c
    · by_cases q1 : q.1 = 1 ∧ q.2 < 0
      · rw [if_pos q1] at c h1
        exact ⟨-1 - q.2, by omega, by omega, h1.2.2⟩
      · rw [if_neg q1] at c h1
        exact wz_ok_oc h1 c
    · exact wz_ok_oc h2 c
theorem wr_rows {s : sx_S} {a : List (Int × List Int)} (hI : cx_I s) (hN : we_N s a) (hr : ∀ p ∈ a, ∃ m, p.1 = -1 - m ∧ 0 ≤ m ∧ m < s.1 66 61) (h0 : ∀ p ∈ a, ∀ y ∈ p.2, 0 ≤ y) : wt_rows a := by
  obtain ⟨_, h2, h5⟩ := hN trivial
  refine ⟨h2, fun p hp => ?_⟩
  obtain ⟨m, e, m0, m1⟩ := hr p hp
  rcases h5 m m0 m1 with ⟨_, c⟩ | ⟨i, xs, c1, _, c3, c4, _⟩
  · exact absurd (List.mem_map.mpr ⟨p, hp, e⟩) c
  · have ex : p.2 = xs := by
      obtain ⟨i', hi'⟩ := List.mem_iff_getElem?.mp hp
      have hi2 : a[i']? = some (-1 - m, p.2) := by rw [hi', ← e]
      have e1 := we_rw_at h2 hi2
      have e2 := we_rw_at h2 c1
      rw [← e1, e2]
    have := vr_aa0 hI m
    rw [ex]
    exact ⟨by omega, c4, fun y hy => h0 p hp y (by rw [ex]; exact hy)⟩
