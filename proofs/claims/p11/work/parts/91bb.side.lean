/-! ===== what is written of a side ===== -/
theorem vl_nn_snoc {g : rf_N} : ∀ {f : rf_N}, wz_nn f → wz_nn g → wz_nn (rf_snoc f g)
  | .leaf, _, h => h
  | .inner _ _ _ _ _, ⟨h1, h2, h3, h4⟩, h => ⟨h1, h2, vl_nn_snoc h3 h, h4⟩
section
variable {SN : Int → Int → Prop} {C M : List (Int × qx_T)} {TV : Int → qx_T → Prop} {AR : Nat → List Int}
theorem vl_c1_nn : ∀ {x : qx_T} {W : rf_N} {k h : Int} {f : rf_N} {ρ : List Int}, vl_c1 TV x W k h f ρ → wz_nn f → (k = 1 → 0 ≤ h) → (k = 1 ∨ k = 2) → vx_sg W ∧ wz_nn W := by
  intro x
  induction x with
  | leaf =>
    rintro W k h f ρ ⟨j, e⟩ hf hk hkk
    rw [e]
    exact ⟨⟨j, k, h, f, rfl⟩, hk, fun _ => hf, trivial, fun c => by have c' : k = 0 := c; omega⟩
  | inner z b u x y ihx ihy =>
    intro W k h f ρ hc hf hk hkk
    rcases hc with ⟨rfl, j, e⟩ | ⟨⟨rfl, rfl⟩, j, v, g, W', e, _, h3, h4, h5⟩
    · rw [e]
      exact ⟨⟨j, k, h, f, rfl⟩, hk, fun _ => hf, trivial, fun c => by have c' : k = 0 := c; omega⟩
    · have a1 := ihx h4 (show wz_nn .leaf from trivial) (fun c => absurd c (by decide)) (Or.inr rfl)
      have b1 := ihy h5 (vl_nn_snoc hf a1.2) hk hkk
      rw [e]
      exact ⟨⟨j, 0, v, W', rfl⟩, fun c => absurd c (show ¬ (0 : Int) = 1 by decide), fun _ => b1.2, trivial, fun _ => b1.1⟩
theorem vl_c3_nn : ∀ {x : qx_T} {W : rf_N} {h : Int} {vs : List Int} {ρ : List Int}, vl_c3 TV AR x W h vs ρ → vx_sg W ∧ wz_nn W := by
  have fin : ∀ {j : Nat} {h : Int} {F : rf_N}, vx_sg (rf_n j 3 h F .leaf) ∧ wz_nn (rf_n j 3 h F .leaf) := fun {j h F} => ⟨⟨j, 3, h, F, rfl⟩, fun c => absurd c (show ¬ (3 : Int) = 1 by decide), fun c => absurd rfl c, trivial, fun c => absurd c (show ¬ (3 : Int) = 0 by decide)⟩
  intro x
  induction x with
  | leaf =>
    rintro W h vs ρ ⟨j, F, e, ea⟩
    rw [e]
    exact fin
  | inner z b u x y ihx ihy =>
    intro W h vs ρ hc
    rcases hc with ⟨rfl, j, F, e, ea⟩ | ⟨⟨rfl, rfl⟩, j, v, W', e, _, h5⟩
    · rw [e]
      exact fin
    · have b1 := ihy h5
      rw [e]
      exact ⟨⟨j, 0, v, W', rfl⟩, fun c => absurd c (show ¬ (0 : Int) = 1 by decide), fun _ => b1.2, trivial, fun _ => b1.1⟩
theorem vl_tm_nn : ∀ {n : px_N}, (∀ {W : rf_N} {Γ : List (Int × qx_T)} {ρ : List Int} {x : qx_T}, (vl_tm SN C M TV AR n).1 W Γ ρ x → vx_sg W ∧ wz_nn W) ∧ (∀ {F : rf_N} {Γ : List (Int × qx_T)} {ρ : List Int} {U L : qx_T}, (vl_tm SN C M TV AR n).2 F Γ ρ U L → wz_nn F)
  | .leaf => ⟨fun h => h.elim, fun h => by
    have h1 := h.1
    subst h1
    trivial⟩
  | .inner g q u f n => by
    obtain ⟨f1, f2⟩ := vl_tm_nn (n := f)
    obtain ⟨_, n2⟩ := vl_tm_nn (n := n)
    have one : ∀ {W : rf_N} {Γ : List (Int × qx_T)} {ρ : List Int} {x : qx_T}, (vl_tm SN C M TV AR (.inner g q u f n)).1 W Γ ρ x → vx_sg W ∧ wz_nn W := by
      intro W Γ ρ x h
      rcases h with ⟨_, j, v, F, B, v1, _, v3, _⟩ | ⟨_, k, i, U, h0, w1, w2, w3⟩
      · rw [v1]
        exact ⟨⟨j, 0, v, F, rfl⟩, fun c => absurd c (show ¬ (0 : Int) = 1 by decide), fun _ => (f1 v3).2, trivial, fun _ => (f1 v3).1⟩
      · rcases w3 with ⟨k3, F, r1, r2⟩ | ⟨k3, ls, r1, _, r3, r2⟩
        · refine vl_c1_nn r2 (f2 r1) (fun k1 => ?_) ?_
          · rw [w2.2 (by omega)]
            omega
          · rcases w1 with ⟨z, _⟩ | ⟨z, _⟩ | ⟨z, _⟩
            · exact Or.inr z
            · exact Or.inl z
            · omega
        · exact vl_c3_nn r2
    refine ⟨one, fun {F Γ ρ U L} h => ?_⟩
    obtain ⟨W, X, A, U', ⟨a1, a2⟩, a3, a4, a5⟩ := vl_tm_c.mp h
    have b1 := (one a4).2
    have b2 := n2 a5
    obtain ⟨j, k, h', G, rfl⟩ := a1
    have es : vx_sb (rf_n j k h' G .leaf) X = rf_snoc (rf_n j k h' G .leaf) X := rfl
    rw [a2, es]
    exact vl_nn_snoc b1 b2
end
/-- a TERM of the text under a solution: its value is of its type -/
theorem wy_S_t {b : Nat → Int} {n : Int} {l : List vl_I} {TV : Int → qx_T → Prop} {AR : Nat → List Int} {tl : vw_L} {S : vx_S} {th : Int → rf_N} {ht : Int → List rf_T} {nm : Int → List Int} {p : (List (Int × qx_T) × List (Int × qx_T)) × (px_N × px_N)} {N : px_N} {W : rf_N} {x : qx_T} (hZ : wy_Z b n l TV AR tl S th ht nm) (hp : p ∈ vl_eq l [] []) (hW : (vl_tm (px_SN b n) p.1.1 p.1.2 TV AR N).1 W [] [] x) : (wt (dl_tc (vl_kf l [])) ((vl_kf l []).length : Int) ht (vx_val th AR W (dv_lk []) 0)).1 (fun _ => rf_b) 0 (qx_sh x) ∧ wz_nn W ∧ vx_ok S.2.2.1 AR W ∧ ∀ m, vx_mt m W → 0 ≤ m ∧ m < ((vl_mf l []).length : Int) := by
  obtain ⟨⟨z1, z2, z3⟩, z4, z5, ⟨htv, hck⟩, z6⟩ := hZ trivial
  obtain ⟨⟨W0, B1, rk, hrk⟩, nn, ⟨hS, ho⟩, _, n0, _⟩ := z2 trivial
  obtain ⟨⟨pC, pM⟩, _, _⟩ := vl_eq_in hck (fun _ h => absurd h List.not_mem_nil) (fun _ h => absurd h List.not_mem_nil) p hp
  obtain ⟨tv, htv⟩ := htv
  have hE : vl_E tv (dl_tc (vl_kf l [])) (dl_tm (vl_mf l [])) (dl_ra (vl_mf l [])) p.1.1 p.1.2 TV := ⟨htv, fun i q h => by
    unfold dl_tc
    rw [Int.toNat_natCast, pC i q h]
    rfl, fun i q h => ⟨by
    unfold dl_ra
    rw [Int.toNat_natCast, pM i q h]
    rfl, fun a => by
    unfold dl_tm
    rw [Int.toNat_natCast, pM i q h]
    rfl⟩⟩
  obtain ⟨sg, ty, fv, mt, ok⟩ := (vl_tm_all (P := fun _ _ => True) hE).1 (Γ := []) (ρ := []) ⟨rfl, fun l hl => absurd hl (Nat.not_lt_zero _)⟩ hW
  have mt' : ∀ m, vx_mt m W → 0 ≤ m ∧ m < ((vl_mf l []).length : Int) := fun m hm => by
    obtain ⟨m0, m1⟩ := mt m hm
    have hk : m.toNat < p.1.2.length := by omega
    have := (List.getElem?_eq_some_iff.mp (pM m.toNat _ (List.getElem?_eq_getElem hk))).1
    exact ⟨m0, by omega⟩
  have ok' : vx_ok S.2.2.1 AR W := vx_ok_cg (fun m hm => z3 m (mt' m hm).1 (mt' m hm).2) (fun _ _ => rfl) ok
  have nnW : wz_nn W := (vl_tm_nn.1 hW).2
  have lC : (p.1.1.length : Int) ≤ ((vl_kf l []).length : Int) := by
    by_cases c : p.1.1.length = 0
    · omega
    · have := (List.getElem?_eq_some_iff.mp (pC (p.1.1.length - 1) _ (List.getElem?_eq_getElem (by omega)))).1
      omega
  have kc : wk_kc ((vl_kf l []).length : Int) W := (vl_tm_kc lC).1 hW
  have hT : ∀ m, vx_mt m W → wt_T (dl_tc (vl_kf l [])) ((vl_kf l []).length : Int) ht S.1 S.2.2.1 (dl_tm (vl_mf l [])) (th m) m := fun m hm => by
    obtain ⟨m0, m1⟩ := mt' m hm
    have hk : m.toNat < (vl_mf l []).length := by omega
    have hp' := List.getElem?_eq_getElem hk
    have wr := z6 m.toNat _ hp'
    rw [Int.toNat_of_nonneg m0] at wr
    have ar : S.2.2.1 m = ((rf_args (qx_sh ((vl_mf l [])[m.toNat]).2)).length : Int) := by
      rw [z3 m m0 m1]
      unfold dl_ra
      rw [hp']
      rfl
    have m2 : m < S.1 := by omega
    have okm := (wz_sol hrk W0 B1 hS ho nn hS m m0 m2).1
    have scm := hS.2.1 m m0 m2
    refine ⟨okm, scm, fun Γ hΓ => ?_⟩
    obtain ⟨Γ', _, g2, g3⟩ := wt_un _ _ _ _ rfl wr
    rw [Int.zero_add, ← ar] at g3
    refine wt_cg okm scm (by omega) (fun v hv => (hS.1 m).2 v hv) (fun v v0 v1 => ?_) g3
    have hv : v.toNat < (rf_args (qx_sh ((vl_mf l [])[m.toNat]).2)).length := by omega
    have h1 := g2 v.toNat _ (List.getElem?_eq_getElem hv)
    rw [Int.zero_add, Int.toNat_of_nonneg v0] at h1
    have h2 := hΓ v.toNat (by omega)
    rw [Int.toNat_of_nonneg v0] at h2
    rw [h2, h1]
    unfold dl_tm
    rw [hp']
    show (rf_args (qx_sh ((vl_mf l [])[m.toNat]).2)).getD v.toNat rf_b = _
    rw [List.getD_eq_getElem?_getD, List.getElem?_eq_getElem hv]
    rfl
  have w := (wt_sub (tv := tv) hS.1 hT ok' kc nnW).1 (dv_lk []) 0 (fun _ => rf_b) (qx_sh x) (vx_sg_1 sg).1 (Int.le_refl _) (by rw [(vx_sg_1 sg).2]; exact ty) (fun z hz => by
    rw [(vx_sg_1 sg).2] at hz
    exact absurd (fv z hz) List.not_mem_nil)
  rw [(vx_sg_1 sg).2] at w
  exact ⟨w, nnW, ok', mt'⟩
/-- o is what is written of the side si of the equation k -/
def wy_Os (b : Nat → Int) (n : Int) (l : List vl_I) (k si : Int) (o : List Int) : Prop := True → ∃ (TV : Int → qx_T → Prop) (AR : Nat → List Int) (tl : vw_L) (S : vx_S) (th : Int → rf_N) (ht : Int → List rf_T) (nm : Int → List Int) (p : (List (Int × qx_T) × List (Int × qx_T)) × (px_N × px_N)) (W : rf_N) (x : qx_T), wy_Z b n l TV AR tl S th ht nm ∧ (vl_eq l [] [])[k.toNat]? = some p ∧ (vl_tm (px_SN b n) p.1.1 p.1.2 TV AR (if si = 0 then p.2.1 else p.2.2)).1 W [] [] x ∧ o = ((we_W (wk_E nm ht) (vx_val th AR W (dv_lk []) 0)).1 0 (wz_al th (vl_mf l []).length, [])).2
theorem wy_Os_fun {b : Nat → Int} {n : Int} {l : List vl_I} {k si : Int} {o o' : List Int} (h : wy_Os b n l k si o) (h' : wy_Os b n l k si o') : o = o' := by
  obtain ⟨TV, AR, tl, S, th, ht, nm, p, W, x, hZ, hp, hW, eo⟩ := h trivial
  obtain ⟨TV', AR', tl', S', th', ht', nm', p', W', x', hZ', hp', hW', eo'⟩ := h' trivial
  rw [hp] at hp'
  have ep : p = p' := Option.some.inj hp'
  subst ep
  obtain ⟨t1, nnW, okW, mtW⟩ := wy_S_t hZ (List.mem_of_getElem? hp) hW
  obtain ⟨t2, _⟩ := wy_S_t hZ' (List.mem_of_getElem? hp) hW'
  obtain ⟨⟨a1, a2, a3⟩, a4, a5, _⟩ := hZ trivial
  obtain ⟨⟨b1, b2, b3⟩, b4, b5, _⟩ := hZ' trivial
  have hon' : ∀ m, vx_on (th' m) := fun m => ((b2 trivial).2.2.1.1.1 m).1
  have hon : ∀ m, vx_on (th m) := fun m => ((a2 trivial).2.2.1.1.1 m).1
  obtain ⟨ex, ev⟩ := (vl_tm_eq (th := th') hon' (fun h1 h2 => px_pv_fun.2 h1 h2)).1 (Γ := []) (ρ := []) (ρ' := []) rfl hW hW'
  have ev' := ev (dv_lk []) (dv_lk []) 0 ⟨rfl, fun _ h => absurd h (Nat.not_lt_zero _)⟩
  rw [← ev', ← ex] at t2
  rw [← ev'] at eo'
  have b2' := wz_MG_cg (Q' := dv_Q AR tl) (fun th hg => ⟨vl_tx_Q (fun m => (hg m).1) b1 a1, vl_tx_Q (fun m => (hg m).1) a1 b1⟩) b2
  obtain ⟨π, π', I, J, r1, r2⟩ := wz_both2 a2 b2' (fun u u0 u1 => (b3 u u0 u1).trans (a3 u u0 u1).symm)
  have hab := wz_al_rl (n := (vl_mf l []).length) r1
  obtain ⟨o1, e1, e2⟩ := (wt_eq (nm := nm) (nm' := nm') (ht := ht) (ht' := ht') (tc := dl_tc (vl_kf l [])) (nC := ((vl_kf l []).length : Int)) hab a4 b4 (fun x x0 x1 => (a5 x x0 x1).trans (b5 x x0 x1).symm) (r2 W AR (dv_lk []) 0 nnW okW mtW) (fun y hy => by
    obtain ⟨m, m1, m2⟩ := we_val_oc hon nnW hy
    exact wz_al_mem.mpr ⟨m, mtW m m1, m2⟩)).1 (fun _ => rf_b) 0 (qx_sh x) t1 t2 []
  have e1' : (we_W (wk_E nm ht) (vx_val th AR W (dv_lk []) 0)).1 0 (wz_al th (vl_mf l []).length, []) = (wz_al th (vl_mf l []).length, o1) := e1
  have e2' : (we_W (wk_E nm' ht') (vx_val th' AR W (dv_lk []) 0)).1 0 (wz_al th' (vl_mf l []).length, []) = (wz_al th' (vl_mf l []).length, o1) := e2
  rw [eo, eo', e1', e2']
