section
/-! ===== two most general solutions: what is written of them ===== -/
theorem wz_both2 {S T : vx_S} {n0 : Int} {Q : (Int → rf_N) → Prop} {th th' : Int → rf_N} (h : wz_MG S n0 Q th) (h' : wz_MG T n0 Q th') (ha : ∀ u, 0 ≤ u → u < n0 → T.2.2.1 u = S.2.2.1 u) : ∃ π π' I J, (∀ u, 0 ≤ u → u < n0 → wz_rl π π' I J (th u) (th' u)) ∧ ∀ (A : rf_N) (AR : Nat → List Int) (e : Int → Int) (L : Int), wz_nn A → vx_ok S.2.2.1 AR A → (∀ m, vx_mt m A → 0 ≤ m ∧ m < n0) → wz_rl π π' I J (vx_val th AR A e L) (vx_val th' AR A e L) := by
  obtain ⟨⟨W, B1, rk, hr⟩, nn, ⟨hS, ho⟩, hQ, hn, hE⟩ := h trivial
  obtain ⟨⟨W', B1', rk', hr'⟩, nn', ⟨hS', ho'⟩, hQ', hn', hE'⟩ := h' trivial
  obtain ⟨σ, σ1, σ2⟩ := hE th' hS'.1 (fun u u0 u1 => by rw [← ha u u0 u1]; exact hS'.2.1 u u0 (by omega)) (hQ' th' hS')
  obtain ⟨τ, τ1, τ2⟩ := hE' th hS.1 (fun u u0 u1 => by rw [ha u u0 u1]; exact hS.2.1 u u0 (by omega)) (hQ th hS)
  have a := wz_sol hr W B1 hS ho nn σ1
  have b := wz_sol hr' W' B1' hS' ho' nn' τ1
  refine ⟨fun h => wz_hd (σ (-1 - h)), fun h => wz_hd (τ (-1 - h)), fun h => dz_hs (wz_F (σ (-1 - h))), fun h => dz_hs (wz_F (τ (-1 - h))), fun u u0 u1 => ?_, fun A AR e L hA hok hm => ?_⟩
  · obtain ⟨a1, a2⟩ := a u u0 (by omega)
    obtain ⟨b1, b2⟩ := b u u0 (by omega)
    rw [σ2 u u0 u1] at a2
    rw [τ2 u u0 u1, ha u u0 u1] at b2
    rw [a2] at b1 b2 ⊢
    exact wz_mut σ1.1 τ1.1 σ1.2.1 τ1.2.1 a1 b1 b2.symm
  · have v1 : wz_in σ (vx_val th AR A e L) L = vx_val th' AR A e L := wz_in_val (n := S.1) (ar0 := S.2.2.1) σ1.1 (fun m => (hS.1 m).1) hA hok (fun m hm' => by
      obtain ⟨m0, m1⟩ := hm m hm'
      obtain ⟨a1, a2⟩ := a m m0 (by omega)
      exact ⟨a1, by first | exact (σ2 m m0 m1).symm.trans a2 | exact (σ2 m m0 m1).trans a2⟩)
    have hok' : vx_ok T.2.2.1 AR A := vx_ok_cg (fun m hm' => by
      obtain ⟨m0, m1⟩ := hm m hm'
      exact ha m m0 m1) (fun _ _ => rfl) hok
    have v2 : wz_in τ (vx_val th' AR A e L) L = vx_val th AR A e L := wz_in_val (n := T.1) (ar0 := T.2.2.1) τ1.1 (fun m => (hS'.1 m).1) hA hok' (fun m hm' => by
      obtain ⟨m0, m1⟩ := hm m hm'
      obtain ⟨b1, b2⟩ := b m m0 (by omega)
      exact ⟨b1, by first | exact (τ2 m m0 m1).symm.trans b2 | exact (τ2 m m0 m1).trans b2⟩)
    have o1 : wz_ok S.1 S.2.2.1 (vx_val th AR A e L) := wz_ok_val (fun m => (hS.1 m).1) hA (fun m hm' => by
      obtain ⟨m0, m1⟩ := hm m hm'
      exact (a m m0 (by omega)).1)
    have o2 : wz_ok T.1 T.2.2.1 (vx_val th' AR A e L) := wz_ok_val (fun m => (hS'.1 m).1) hA (fun m hm' => by
      obtain ⟨m0, m1⟩ := hm m hm'
      exact (b m m0 (by omega)).1)
    rw [← v1] at o2 v2 ⊢
    exact wz_mut σ1.1 τ1.1 σ1.2.1 τ1.2.1 o1 o2 v2
theorem wz_rl_lm {π π' : Int → Int} {I J : Int → List Int} {A B : rf_N} (h : wz_rl π π' I J A B) : ∀ n, wz_rl π π' I J (vq_lm n A) (vq_lm n B)
  | 0 => h
  | n + 1 => by
    show wz_rl π π' I J (.inner 0 (0, 0) () (vq_lm n A) .leaf) (.inner 0 (0, 0) () (vq_lm n B) .leaf)
    rw [wz_rl_in, if_neg (by decide)]
    exact ⟨⟨rfl, wz_rl_lm h n⟩, trivial⟩
/-- the holes that are met are those of open unknowns -/
theorem wz_oc_op {S : vx_S} {th : Int → rf_N} {rk : Int → Nat} (hr : vx_rk S rk) (hW : vx_W S) (hS : vx_So S th) (ho : ∀ u, S.2.2.2.1 u = none → th u = vx_gn S.2.2.1 u) (hn : ∀ u B e, S.2.2.2.1 u = some (B, e) → wz_nn B) (hb : ∀ u B e, S.2.2.2.1 u = some (B, e) → th u = vx_val th S.2.2.2.2 B e (S.2.2.1 u)) {x : Int} : ∀ (k : Nat) (u : Int), rk u < k → wz_oc x (th u) → ∃ m, x = -1 - m ∧ S.2.2.2.1 m = none
  | 0, _, h, _ => absurd h (Nat.not_lt_zero _)
  | k + 1, u, h, hx => by
    cases e : S.2.2.2.1 u with
    | none =>
      rw [ho u e] at hx
      have hx' : wz_oc x (.inner 0 (1, -1 - u) () (vx_vs (S.2.2.1 u).toNat 0) .leaf) := hx
      rw [wz_oc_in] at hx'
      by_cases c : (1 : Int) = 1 ∧ -1 - u < 0
      · rw [if_pos c] at hx'
        rcases hx' with q | q
        · exact ⟨u, q.symm, e⟩
        · exact q.elim
      · rw [if_neg c] at hx'
        rcases hx' with q | q
        · exfalso
          have vr := (wz_vs (S.2.2.1 u).toNat 0).1
          have no : ∀ {F : rf_N}, wz_vr F → ¬ wz_oc x F := fun {F} => by
            induction F with
            | leaf => exact fun _ z => z
            | inner j q u F X _ ihX =>
              intro hv hz
              obtain ⟨⟨v1, v2⟩, v3⟩ := hv
              rw [wz_oc_in, if_neg (by omega), v2] at hz
              rcases hz with z | z
              · exact z
              · exact ihX v3 z
          exact no vr q
        · exact q.elim
    | some p =>
      obtain ⟨B, e'⟩ := p
      rw [hb u B e' e] at hx
      obtain ⟨m, m1, m2⟩ := we_val_oc (fun m => (hS.1 m).1) (hn u B e' e) hx
      exact wz_oc_op hr hW hS ho hn hb k m (by have := hr u B e' m e m1; omega) m2
/-- rows of holes -/
def wz_hr (P : List Int → Prop) : rf_N → Prop
  | .leaf => True
  | .inner _ q _ F X => (if q.1 = 1 ∧ q.2 < 0 then P (dz_hs F) else wz_hr P F) ∧ wz_hr P X
theorem wz_hr_in {P : List Int → Prop} {j : Nat} {q : Int × Int} {u : Unit} {F X : rf_N} : wz_hr P (.inner j q u F X) ↔ (if q.1 = 1 ∧ q.2 < 0 then P (dz_hs F) else wz_hr P F) ∧ wz_hr P X := Iff.rfl
theorem wz_ad_P {P : List Int → Prop} {a : List (Int × List Int)} {h : Int} {xs : List Int} (hx : P xs) (ha : ∀ p ∈ a, P p.2) : ∀ p ∈ wz_ad a h xs, P p.2 := fun p hp => by
  unfold wz_ad at hp
  by_cases c : h ∈ a.map Prod.fst
  · rw [if_pos c] at hp
    exact ha p hp
  · rw [if_neg c] at hp
    rcases List.mem_append.mp hp with hp | hp
    · exact ha p hp
    · rw [List.mem_singleton.mp hp]
      exact hx
theorem wz_go_P {P : List Int → Prop} : ∀ {A : rf_N} {a : List (Int × List Int)}, wz_hr P A → (∀ p ∈ a, P p.2) → ∀ p ∈ wz_go A a, P p.2
  | .leaf, _, _, ha => ha
  | .inner j q u F X, a, h, ha => by
    obtain ⟨h1, h2⟩ := wz_hr_in.mp h
    rw [wz_go_in]
    refine wz_go_P h2 ?_
    by_cases c : q.1 = 1 ∧ q.2 < 0
    · rw [if_pos c] at h1 ⊢
      exact wz_ad_P h1 ha
    · rw [if_neg c] at h1 ⊢
      exact wz_go_P h1 ha
theorem wz_al_P {P : List Int → Prop} {th : Int → rf_N} : ∀ {n : Nat}, (∀ k : Nat, k < n → wz_hr P (th (k : Int))) → ∀ p ∈ wz_al th n, P p.2
  | 0, _ => fun _ h => absurd h List.not_mem_nil
  | n + 1, h => wz_go_P (h n (by omega)) (wz_al_P (fun k hk => h k (by omega)))
theorem wt_hr {tc : Int → rf_T} {nC : Int} {ht : Int → List rf_T} : ∀ {A : rf_N}, (∀ {Γ : Int → rf_T} {L : Int} {t : rf_T}, (wt tc nC ht A).1 Γ L t → wz_hr (fun xs => ∀ y ∈ xs, 0 ≤ y) (vx_1 A)) ∧ (∀ {Γ : Int → rf_T} {L : Int} {t : rf_T}, (wt tc nC ht A).2 Γ L t → wz_hr (fun xs => ∀ y ∈ xs, 0 ≤ y) A)
  | .leaf => ⟨fun h => h.elim, fun _ => trivial⟩
  | .inner j q u F X => by
    obtain ⟨f1, f2⟩ := wt_hr (tc := tc) (nC := nC) (ht := ht) (A := F)
    obtain ⟨_, x2⟩ := wt_hr (tc := tc) (nC := nC) (ht := ht) (A := X)
    have one : ∀ {Γ : Int → rf_T} {L : Int} {t : rf_T}, (wt tc nC ht (.inner j q u F X)).1 Γ L t → (if q.1 = 1 ∧ q.2 < 0 then ∀ y ∈ dz_hs F, 0 ≤ y else wz_hr (fun xs => ∀ y ∈ xs, 0 ≤ y) F) := fun {Γ L t} h => by
      rcases h with ⟨z, on, a, B, e1, y1⟩ | ⟨z, _, y1⟩ | ⟨z1, z2, e1, y1⟩ | ⟨z1, e1, y1⟩
      · rw [if_neg (by omega)]
        have q1 := f1 y1
        rw [we_on_1 on] at q1
        exact q1
      · rw [if_pos z]
        intro y hy
        obtain ⟨i, hi⟩ := List.mem_iff_getElem?.mp hy
        exact (y1 i y hi).2
      · rw [if_neg (by omega)]
        exact f2 y1
      · rw [if_neg (by omega)]
        exact f2 y1
    refine ⟨fun h => ⟨one h, trivial⟩, fun h => ?_⟩
    obtain ⟨A1, B1, _, y1, y2⟩ := wt_2.mp h
    exact ⟨one y1, x2 y2⟩
/-- the name of a constant in the text -/
def wy_nm (b : Nat → Int) (n : Int) (C : List (Int × qx_T)) (h : Int) : List Int := (((C[h.toNat]?).map (fun e : Int × qx_T => (List.range (px_en b n (px_ps b n e.1.toNat) - px_ps b n e.1.toNat).toNat).map (fun j : Nat => b (px_ps b n e.1.toNat + (j : Int)).toNat)))).getD []
/-- the types of the variables; the text is right -/
def wy_V (b : Nat → Int) (n : Int) (l : List vl_I) (TV : Int → qx_T → Prop) : Prop := (∃ tv : Int → rf_T, ∀ v T, TV v T → tv v = qx_sh T) ∧ px_ck (px_SN b n) l [] [] 0
/-- a most general solution of the text, with what is wanted to write it -/
def wy_Z (b : Nat → Int) (n : Int) (l : List vl_I) (TV : Int → qx_T → Prop) (AR : Nat → List Int) (tl : vw_L) (S : vx_S) (th : Int → rf_N) (ht : Int → List rf_T) (nm : Int → List Int) : Prop := True → (vl_tx (px_SN b n) TV AR l [] [] tl ∧ wz_MG S ((vl_mf l []).length : Int) (dv_Q AR tl) th ∧ ∀ v, 0 ≤ v → v < ((vl_mf l []).length : Int) → S.2.2.1 v = dl_ra (vl_mf l []) v) ∧ wt_rows (wz_al th (vl_mf l []).length) ∧ (∀ h, 0 ≤ h → h < ((vl_kf l []).length : Int) → nm h = wy_nm b n (vl_kf l []) h) ∧ wy_V b n l TV ∧ ∀ (k : Nat) p, (vl_mf l [])[k]? = some p → (wt (dl_tc (vl_kf l [])) ((vl_kf l []).length : Int) ht (vq_lm (rf_args (qx_sh p.2)).length (th (k : Int)))).1 (fun _ => rf_b) 0 (qx_sh p.2)
/-- what is written of the unknown k -/
def wy_o (l : List vl_I) (th : Int → rf_N) (ht : Int → List rf_T) (nm : Int → List Int) (p : Int × qx_T) (k : Nat) : List Int := ((we_W (wk_E nm ht) (vq_lm (rf_args (qx_sh p.2)).length (th (k : Int)))).1 0 (wz_al th (vl_mf l []).length, [])).2
theorem wy_Z_o {b : Nat → Int} {n : Int} {l : List vl_I} {TV TV' : Int → qx_T → Prop} {AR AR' : Nat → List Int} {tl tl' : vw_L} {S S' : vx_S} {th th' : Int → rf_N} {ht ht' : Int → List rf_T} {nm nm' : Int → List Int} (h : wy_Z b n l TV AR tl S th ht nm) (h' : wy_Z b n l TV' AR' tl' S' th' ht' nm') {k : Nat} {p : Int × qx_T} (hk : (vl_mf l [])[k]? = some p) : wy_o l th ht nm p k = wy_o l th' ht' nm' p k := by
  obtain ⟨⟨a1, a2, a3⟩, a4, a5, _, a6⟩ := h trivial
  obtain ⟨⟨b1, b2, b3⟩, b4, b5, _, b6⟩ := h' trivial
  have b2' := wz_MG_cg (Q' := dv_Q AR tl) (fun th hg => ⟨vl_tx_Q (fun m => (hg m).1) b1 a1, vl_tx_Q (fun m => (hg m).1) a1 b1⟩) b2
  obtain ⟨π, π', I, J, r1, _⟩ := wz_both2 a2 b2' (fun u u0 u1 => (b3 u u0 u1).trans (a3 u u0 u1).symm)
  have hk' : k < (vl_mf l []).length := (List.getElem?_eq_some_iff.mp hk).1
  have hab := wz_al_rl (n := (vl_mf l []).length) r1
  obtain ⟨o', e1, e2⟩ := (wt_eq (nm := nm) (nm' := nm') (ht := ht) (ht' := ht') (tc := dl_tc (vl_kf l [])) (nC := ((vl_kf l []).length : Int)) hab a4 b4 (fun x x0 x1 => (a5 x x0 x1).trans (b5 x x0 x1).symm) (wz_rl_lm (r1 (k : Int) (by omega) (by omega)) (rf_args (qx_sh p.2)).length) (fun x hx => by
    refine wz_al_mem.mpr ⟨(k : Int), ⟨by omega, by omega⟩, Classical.byContradiction (fun c => wz_lm_oc c _ hx)⟩)).1 (fun _ => rf_b) 0 (qx_sh p.2) (a6 k p hk) (b6 k p hk) []
  have e1' : (we_W (wk_E nm ht) (vq_lm (rf_args (qx_sh p.2)).length (th (k : Int)))).1 0 (wz_al th (vl_mf l []).length, []) = (wz_al th (vl_mf l []).length, o') := e1
  have e2' : (we_W (wk_E nm' ht') (vq_lm (rf_args (qx_sh p.2)).length (th' (k : Int)))).1 0 (wz_al th' (vl_mf l []).length, []) = (wz_al th' (vl_mf l []).length, o') := e2
  unfold wy_o
  rw [e1', e2']
end
section
section
variable {SN : Int → Int → Prop} {C M : List (Int × qx_T)} {TV : Int → qx_T → Prop} {AR : Nat → List Int}
end
/-- o is what is written of the side si of the equation k -/
def wy_Os (b : Nat → Int) (n : Int) (l : List vl_I) (k si : Int) (o : List Int) : Prop := True → ∃ (TV : Int → qx_T → Prop) (AR : Nat → List Int) (tl : vw_L) (S : vx_S) (th : Int → rf_N) (ht : Int → List rf_T) (nm : Int → List Int) (p : (List (Int × qx_T) × List (Int × qx_T)) × (px_N × px_N)) (W : rf_N) (x : qx_T), wy_Z b n l TV AR tl S th ht nm ∧ (vl_eq l [] [])[k.toNat]? = some p ∧ (vl_tm (px_SN b n) p.1.1 p.1.2 TV AR (if si = 0 then p.2.1 else p.2.2)).1 W [] [] x ∧ o = ((we_W (wk_E nm ht) (vx_val th AR W (dv_lk []) 0)).1 0 (wz_al th (vl_mf l []).length, [])).2
end
section
/-! ===== values of trees that have types ===== -/
/-- constants of the text, calls with all their ARGs -/
def wt_t (S : vx_S) (nC : Int) : rf_N → Prop
  | .leaf => True
  | .inner j q _ F X => ((q.1 = 0 ∧ vx_sg F ∧ wt_t S nC F) ∨ (q.1 = 1 ∧ (0 ≤ q.2 ∧ q.2 < nC) ∧ wt_t S nC F) ∨ (q.1 = 2 ∧ wt_t S nC F) ∨ (q.1 = 3 ∧ 0 ≤ q.2 ∧ ((S.2.2.2.2 j).length : Int) = S.2.2.1 q.2 ∧ (S.2.2.2.2 j).length ≤ 4)) ∧ wt_t S nC X
/-- what is known of the bodies -/
def wt_B (tc : Int → rf_T) (tm : Int → Int → rf_T) (S : vx_S) (U : Int → Int → Prop) (nC : Int) : Prop := True → (∀ m i, S.2.2.2.1 m = none → 0 ≤ i → i < S.2.2.1 m → U m i) ∧ ∀ m B e, S.2.2.2.1 m = some (B, e) → ∃ tv, (vx_sg B ∧ (vx_ty tv tc tm S.2.2.2.2 B).1 rf_b ∧ wt_t S nC B) ∧ (∀ z, e z < S.2.2.1 m) ∧ ∀ z, vx_fv U S.2.2.2.2 z B → U m (e z) ∧ 0 ≤ e z ∧ tv z = tm m (e z)
theorem wt_se {tc : Int → rf_T} {tm : Int → Int → rf_T} {S : vx_S} {U : Int → Int → Prop} {th : Int → rf_N} {rk : Int → Nat} {nC : Int} (hS : vx_So S th) (ho : ∀ m, S.2.2.2.1 m = none → th m = vx_gn S.2.2.1 m) (hrk : vx_rk S rk) (hB : wt_B tc tm S U nC) : ∀ (r : Nat) (A : rf_N), vx_bl rk r A → wt_t S nC A → (∀ (tv : Int → rf_T) (e : Int → Int) (L : Int) (lt : Int → rf_T) (t : rf_T), A ≠ .leaf → 0 ≤ L → (vx_ty tv tc tm S.2.2.2.2 (vx_1 A)).1 t → (∀ z, vx_fv U S.2.2.2.2 z (vx_1 A) → (0 ≤ e z ∧ e z < L) ∧ tv z = lt (e z)) → (wt tc nC (wk_ht tm) (vx_val th S.2.2.2.2 (vx_1 A) e L)).1 lt L t) ∧ (∀ (tv : Int → rf_T) (e : Int → Int) (L : Int) (lt : Int → rf_T) (u : rf_T), 0 ≤ L → (vx_ty tv tc tm S.2.2.2.2 A).2 u → (∀ z, vx_fv U S.2.2.2.2 z A → (0 ≤ e z ∧ e z < L) ∧ tv z = lt (e z)) → (wt tc nC (wk_ht tm) (vx_val th S.2.2.2.2 A e L)).2 lt L u) := by
  have hg : ∀ m, vx_on (th m) := fun m => (hS.1 m).1
  obtain ⟨hU1, hBd⟩ := hB trivial
  intro r
  induction r using Nat.strongRecOn with
  | _ r ihr =>
    intro A
    induction A with
    | leaf => exact fun _ _ => ⟨fun _ _ _ _ _ h => absurd rfl h, fun _ _ _ _ _ _ h _ => h⟩
    | inner j q u F X ihF ihX =>
      intro hbl htt
      obtain ⟨t1, t3⟩ := htt
      have bF : q.1 ≠ 3 → vx_bl rk r F := fun h3 m hm => hbl m (Or.inr (Or.inl ⟨h3, hm⟩))
      have bX : vx_bl rk r X := fun m hm => hbl m (Or.inr (Or.inr hm))
      obtain ⟨_, x2⟩ := ihX bX t3
      have one : ∀ (tv : Int → rf_T) (e : Int → Int) (L : Int) (lt : Int → rf_T) (t : rf_T), 0 ≤ L → (vx_ty tv tc tm S.2.2.2.2 (.inner j q () F .leaf)).1 t → (∀ z, vx_fv U S.2.2.2.2 z (.inner j q () F .leaf) → (0 ≤ e z ∧ e z < L) ∧ tv z = lt (e z)) → (wt tc nC (wk_ht tm) (vx_val th S.2.2.2.2 (.inner j q () F .leaf) e L)).1 lt L t := by
        intro tv e L lt t L0 ty hf
        have ev := vx_val_in th S.2.2.2.2 j q () F .leaf e L
        rcases t1 with ⟨q0, sF, tF⟩ | ⟨q1, hh, tF⟩ | ⟨q2, tF⟩ | ⟨q3, m0, hl, h4⟩
        · rcases ty with ⟨_, B, eB, yB⟩ | ⟨z, _⟩ | ⟨z, _⟩ | ⟨z, _⟩
          · have ih := (ihF (bF (by omega)) tF).1 tv (vx_up e q.2 L) (L + 1) (fun l => if l = L then tv q.2 else lt l) B (vx_sg_1 sF).1 (by omega) (by rw [(vx_sg_1 sF).2]; exact yB) (fun z hz => by
              rw [(vx_sg_1 sF).2] at hz
              unfold vx_up
              by_cases c : z = q.2
              · rw [if_pos c, if_pos rfl, c]
                exact ⟨⟨L0, by omega⟩, rfl⟩
              · obtain ⟨⟨e0, e1⟩, e2⟩ := hf z (Or.inl (Or.inl ⟨q0, c, hz⟩))
                rw [if_neg c, if_neg (by omega)]
                exact ⟨⟨e0, by omega⟩, e2⟩)
            rw [(vx_sg_1 sF).2] at ih
            have on : vx_on (vx_val th S.2.2.2.2 F (vx_up e q.2 L) (L + 1)) := by
              obtain ⟨j', k', h', G, rfl⟩ := sF
              exact vx_val_one hg _ _ _ _ _ _
            rw [ev, if_pos q0]
            exact Or.inl ⟨rfl, on, tv q.2, B, eB, ih⟩
          · omega
          · omega
          · omega
        · have fF : ∀ z, vx_fv U S.2.2.2.2 z F → (0 ≤ e z ∧ e z < L) ∧ tv z = lt (e z) := fun z hz => hf z (Or.inl (Or.inr (Or.inr ⟨by omega, by omega, Or.inr hz⟩)))
          rcases ty with ⟨z, _⟩ | ⟨_, et, yF⟩ | ⟨z, _⟩ | ⟨z, _⟩
          · omega
          · rw [ev, if_neg (by omega), if_neg (by omega), if_neg (by omega)]
            exact Or.inr (Or.inr (Or.inl ⟨q1, hh, et, (ihF (bF (by omega)) tF).2 tv e L lt _ L0 yF fF⟩))
          · omega
          · omega
        · have fF : ∀ z, vx_fv U S.2.2.2.2 z F → (0 ≤ e z ∧ e z < L) ∧ tv z = lt (e z) := fun z hz => hf z (Or.inl (Or.inr (Or.inr ⟨by omega, by omega, Or.inr hz⟩)))
          have hv := (hf q.2 (Or.inl (Or.inr (Or.inr ⟨by omega, by omega, Or.inl ⟨q2, rfl⟩⟩)))).2
          rcases ty with ⟨z, _⟩ | ⟨z, _⟩ | ⟨_, et, yF⟩ | ⟨z, _⟩
          · omega
          · omega
          · rw [ev, if_neg (by omega), if_neg (by omega), if_pos q2]
            have w := (ihF (bF (by omega)) tF).2 tv e L lt _ L0 yF fF
            rw [hv] at w
            exact Or.inr (Or.inr (Or.inr ⟨q2, et, w⟩))
          · omega
        · have tyr : t = rf_b ∧ ∀ (i : Nat) y, (S.2.2.2.2 j)[i]? = some y → tv y = tm q.2 i := by
            rcases ty with ⟨z, _⟩ | ⟨z, _⟩ | ⟨z, _⟩ | ⟨_, z1, z2⟩
            · omega
            · omega
            · omega
            · exact ⟨z1, z2⟩
          have e0 : (.inner j q () F .leaf : rf_N) = rf_n j 3 q.2 F .leaf := by
            show rf_n j q.1 q.2 F .leaf = _
            rw [q3]
          have hbm : rk q.2 < r := hbl q.2 (Or.inl ⟨q3, rfl⟩)
          rw [e0] at hf ⊢
          cases hb : S.2.2.2.1 q.2 with
          | none =>
            obtain ⟨Fv, e1, e2⟩ := wd_open (L := L) (F := F) (e := e) (j := j) hS (ho q.2 hb) hl
            have e1' : vx_val th S.2.2.2.2 (rf_n j 3 q.2 F .leaf) e L = .inner 0 (1, -1 - q.2) () Fv .leaf := e1
            rw [e1']
            refine Or.inr (Or.inl ⟨⟨rfl, by show -1 - q.2 < 0; omega⟩, tyr.1, fun i y hy => ?_⟩)
            rw [e2, List.getElem?_map] at hy
            cases hz : (S.2.2.2.2 j)[i]? with
            | none =>
              rw [hz] at hy
              cases hy
            | some z =>
              rw [hz] at hy
              have ey : e z = y := Option.some.inj hy
              have hi := (List.getElem?_eq_some_iff.mp hz).1
              obtain ⟨⟨a0, _⟩, a2⟩ := hf z (Or.inl (Or.inr (Or.inl ⟨rfl, i, hz, hU1 q.2 (i : Int) hb (by omega) (by omega)⟩)))
              rw [← ey]
              refine ⟨?_, a0⟩
              show (wk_ht tm (-1 - q.2)).getD i .leaf = _
              rw [wk_ht_at (by omega), ← tyr.2 i z hz]
              exact a2
          | some p =>
            obtain ⟨B, em⟩ := p
            obtain ⟨tv', ⟨sB, yB, tB⟩, hlt, hfB⟩ := hBd q.2 B em hb
            have hv : vx_val th S.2.2.2.2 (rf_n j 3 q.2 F .leaf) e L = vx_val th S.2.2.2.2 B (fun z => ((S.2.2.2.2 j).map e).getD (em z).toNat (-1)) L := vx_call_body hS hb hl hlt (fun z _ => rfl)
            have ih := (ihr (rk q.2) hbm B (fun m hm => hrk q.2 B em m hb hm) tB).1 tv' (fun z => ((S.2.2.2.2 j).map e).getD (em z).toNat (-1)) L lt t (vx_sg_1 sB).1 L0 (by rw [(vx_sg_1 sB).2, tyr.1]; exact yB) (fun z hz => by
              rw [(vx_sg_1 sB).2] at hz
              obtain ⟨u1, u2, u3⟩ := hfB z hz
              have u4 := hlt z
              have hi : (em z).toNat < (S.2.2.2.2 j).length := by omega
              have hy : (S.2.2.2.2 j)[(em z).toNat]? = some (S.2.2.2.2 j)[(em z).toNat] := List.getElem?_eq_getElem hi
              have ei : (((em z).toNat : Nat) : Int) = em z := Int.toNat_of_nonneg u2
              obtain ⟨a1, a2⟩ := hf (S.2.2.2.2 j)[(em z).toNat] (Or.inl (Or.inr (Or.inl ⟨rfl, (em z).toNat, hy, by rw [ei]; exact u1⟩)))
              have ee : ((S.2.2.2.2 j).map e).getD (em z).toNat (-1) = e (S.2.2.2.2 j)[(em z).toNat] := wt_gm hi
              have et := tyr.2 (em z).toNat _ hy
              rw [ei] at et
              show (0 ≤ ((S.2.2.2.2 j).map e).getD (em z).toNat (-1) ∧ ((S.2.2.2.2 j).map e).getD (em z).toNat (-1) < L) ∧ tv' z = lt (((S.2.2.2.2 j).map e).getD (em z).toNat (-1))
              rw [ee]
              exact ⟨a1, by rw [u3, ← et]; exact a2⟩)
            rw [(vx_sg_1 sB).2] at ih
            rw [hv]
            exact ih
      refine ⟨fun tv e L lt t _ L0 ty hf => one tv e L lt t L0 ty hf, fun tv e L lt w L0 ty hf => ?_⟩
      obtain ⟨A', B, eq, y1, y2⟩ := ty
      have w1 := one tv e L lt A' L0 y1 (fun z hz => hf z (by
        rcases hz with hz | hz
        · exact Or.inl hz
        · exact hz.elim))
      have w2 := x2 tv e L lt B L0 y2 (fun z hz => hf z (Or.inr hz))
      rw [vx_val_1 hg j q u F X e L]
      obtain ⟨k', h', G, hG⟩ := vx_val_one hg (AR := S.2.2.2.2) j q u F e L
      have hG'' : vx_val th S.2.2.2.2 (.inner j q () F .leaf) e L = rf_n 0 k' h' G .leaf := hG
      rw [hG''] at w1 ⊢
      exact ⟨A', B, eq, w1, w2⟩
/-- the desk's trees -/
theorem wt_t_dv {S : vx_S} {nC : Int} {A16 : Nat → Int} : ∀ {A : rf_N}, dv_tr A16 S.2.2.2.2 A → wk_kc nC A → vx_ok S.2.2.1 S.2.2.2.2 A → wt_t S nC A
  | .leaf, _, _, _ => trivial
  | .inner j q u F X, ⟨t1, t2, t3⟩, ⟨k1, k2, k3⟩, ho => by
    refine ⟨?_, wt_t_dv t3 k3 ho.2⟩
    rcases t1 with ⟨q0, sF, tF⟩ | ⟨q12, _, tF⟩ | ⟨q3, ⟨_, l4⟩, aF, _, _⟩
    · exact Or.inl ⟨q0, sF, wt_t_dv tF (k2 (by omega)) (wz_ok_F ho (by omega))⟩
    · have hF := wt_t_dv tF (k2 (by omega)) (wz_ok_F ho (by omega))
      rcases q12 with q1 | q2
      · exact Or.inr (Or.inl ⟨q1, ⟨t2, k1 q1⟩, hF⟩)
      · exact Or.inr (Or.inr (Or.inl ⟨q2, hF⟩))
    · refine Or.inr (Or.inr (Or.inr ⟨q3, t2, ?_, ?_⟩))
      · rcases ho.1 with ⟨z, _⟩ | ⟨_, z⟩
        · omega
        · exact z
      · rw [aF, dz_hs_len]
        exact l4
theorem wt_sd {tv tc : Int → rf_T} {tm : Int → Int → rf_T} {S : vx_S} {PR : Int → List (Int × Int)} {th : Int → rf_N} {rk : Int → Nat} {nC : Int} {A16 : Nat → Int} (hT : vx_TS tv tc tm S PR) (hS : vx_So S th) (ho : ∀ m, S.2.2.2.1 m = none → th m = vx_gn S.2.2.1 m) (hrk : vx_rk S rk) (hbt : ∀ u B e, S.2.2.2.1 u = some (B, e) → dv_tr A16 S.2.2.2.2 B ∧ wk_kc nC B) {r : Nat} {A : rf_N} (hbl : vx_bl rk r A) (htr : dv_tr A16 S.2.2.2.2 A) (hkc : wk_kc nC A) {c : List (Int × Int)} {L : Int} {lt : Int → rf_T} {t : rf_T} (sd : vx_sd tv tc tm S lt L t A c) : (wt tc nC (wk_ht tm) (vx_val th S.2.2.2.2 A (dv_lk c) L)).1 lt L t := by
  obtain ⟨⟨W, _, Sc, _⟩, TS⟩ := hT trivial
  have hB : wt_B tc tm S (vx_U S) nC := fun _ => ⟨fun m i h1 h2 h3 => (vx_U_cl S).1 m i h1 h2 h3, fun m B e hb => by
    obtain ⟨ee, ⟨sB, yB⟩, pB, n1, n2, _⟩ := TS m B e hb
    obtain ⟨b1, b2⟩ := hbt m B e hb
    obtain ⟨_, win, wlt⟩ := W m B e hb
    refine ⟨tv, ⟨sB, yB, wt_t_dv b1 b2 win.2.2⟩, wlt, fun z hz => ?_⟩
    have s1 := Sc m B e z hb hz
    refine ⟨(vx_U_cl S).2 m B e z hb hz, s1, ?_⟩
    rw [ee] at s1 ⊢
    rcases dv_lk_in (l := (PR m).reverse) (x := z) with q | ⟨q, _⟩
    · exact (pB _ (List.mem_reverse.mp q)).1
    · omega⟩
  obtain ⟨⟨in1, sg, ty⟩, lt1, ⟨L0, ck⟩, fv, _⟩ := sd trivial
  have w := (wt_se hS ho hrk hB r A hbl (wt_t_dv htr hkc in1.2.2)).1 tv (dv_lk c) L lt t (vx_sg_1 sg).1 L0 (by rw [(vx_sg_1 sg).2]; exact ty) (fun z hz => by
    rw [(vx_sg_1 sg).2] at hz
    have z0 := fv z hz
    exact ⟨⟨z0, ((vx_ck_lk L0 ck).1 z).2⟩, lt1 z z0⟩)
  rw [(vx_sg_1 sg).2] at w
  exact w
/-- rows of what the desk has numbered -/
theorem wd_rows {u : sx_S} {S : vx_S} {a : List (Int × List Int)} (hN : wd_N u S a) (h4 : ∀ m, 0 ≤ m → m < S.1 → S.2.2.1 m ≤ 4) (hop : ∀ p ∈ a, ∀ m, p.1 = -1 - m → S.2.2.2.1 m = none) (h0 : ∀ p ∈ a, ∀ y ∈ p.2, 0 ≤ y) : wt_rows a := by
  obtain ⟨_, h2, h3, h5⟩ := hN trivial
  refine ⟨h2, fun p hp => ?_⟩
  obtain ⟨m, e, m0, m1⟩ := h3 p hp
  rcases (h5 m m0 m1).1 (hop p hp m e) with ⟨_, c⟩ | ⟨i, xs, c1, _, c3, c4, _⟩
  · exact absurd (List.mem_map.mpr ⟨p, hp, e⟩) c
  · have ex : p.2 = xs := by
      obtain ⟨i', hi'⟩ := List.mem_iff_getElem?.mp hp
      have hi2 : a[i']? = some (-1 - m, p.2) := by rw [hi', ← e]
      have e1 := we_rw_at h2 hi2
      have e2 := we_rw_at h2 c1
      rw [← e1, e2]
    have := h4 m m0 m1
    rw [ex]
    exact ⟨by omega, c4, fun y hy => h0 p hp y (by rw [ex]; exact hy)⟩
end
section
/-! ===== the desk's load, with the bytes of the text ===== -/
theorem st_dk_load {sL : Nat} {sx : Nat → Int32} (hsL : sL ≤ 3072) {d : Nat} (hd : 100 ≤ d) (h_ac : ∀ (b : Nat → Int) (n : Int), ∀ (l : List ((Int × Int × qx_T) × (px_N × px_N))) (s : sx_S) (R : Int → sx_S → Prop), cx_I s → dz_TN b n s → px_TX (px_K b n) l 0 → (px_ck (px_SN b n) l [] [] 0 → ∀ t, cx_I t → (t.1 19 2 = (px_c3 3 l : Int) ∧ t.1 22 2 = (px_c3 4 l : Int) ∧ t.1 18 10 = (px_c3 5 l : Int)) → (∃ C M, dz_E b n C M t ∧ dl_pr b n (vl_eq l [] []) t ∧ t.1 11 6 ≤ 960 ∧ M = vl_mf l [] ∧ C = vl_kf l [] ∧ dw_ro M M.length t) → R 1 t) → (¬ px_ck (px_SN b n) l [] [] 0 → ∀ t, cx_I t → R 0 t) → sx_C sL sx (d + 1) 11 [.inr (.inl 18)] s R) : ∀ (a0 : Int) (s : sx_S) (K : Int → sx_S → Prop), cx_I s → (-2147483648 ≤ a0 ∧ a0 ≤ 2147483647) → (∀ (z : Int) (t : sx_S), (((a0 < 0 ∨ s.1 0 1 < a0) ∧ z = -1 ∧ t = s) ∨ ((0 ≤ a0 ∧ a0 ≤ s.1 0 1) ∧ px_an (s.2.1 1) a0 z ∧ (z = 0 → cx_I t ∧ ∃ l, px_TX (px_K (s.2.1 1) a0) l 0 ∧ px_ck (px_SN (s.2.1 1) a0) l [] [] 0 ∧ (t.1 19 2 = (px_c3 3 l : Int) ∧ t.1 22 2 = (px_c3 4 l : Int) ∧ t.1 18 10 = (px_c3 5 l : Int)) ∧ ∃ bb, (∀ k : Nat, (k : Int) < a0 → bb k = s.2.1 1 k) ∧ px_SN bb a0 = px_SN (s.2.1 1) a0 ∧ dz_E bb a0 (vl_kf l []) (vl_mf l []) t ∧ dl_pr (s.2.1 1) a0 (vl_eq l [] []) t ∧ t.1 11 6 ≤ 960 ∧ dw_ro (vl_mf l []) (vl_mf l []).length t))) → K z t) → sx_C sL sx (d + 2) 138 [.inr (.inl 0), .inl a0] s K := by
  intro a0 s K hI ra hK
  have h1 := hI.fld 0 1 (by decide) rfl
  have i1 : cx_I (sx_uf (sx_uf (sx_uf (sx_uf (sx_uf s.1 0 1 0) 0 2 0) 0 3 (-1)) 0 4 (-1)) 0 5 (-1), s.2) := cx_I_uf rfl rfl (cx_I_uf rfl rfl (cx_I_uf rfl rfl (cx_I_uf rfl rfl (cx_I_uf rfl rfl hI (by omega) (by omega)) (by omega) (by omega)) (by omega) (by omega)) (by omega) (by omega)) (by omega) (by omega)
  let bb : Nat → Int := sx_cpy s.2.1 1 3 (Int.toNat 0) (Int.toNat 0) a0.toNat 3
  have hbb : 0 ≤ a0 → ∀ k : Nat, (k : Int) < a0 → bb k = s.2.1 1 k := fun h0 k hk => by
    show (if Int.toNat 0 ≤ k ∧ k < Int.toNat 0 + a0.toNat then s.2.1 1 (Int.toNat 0 + (k - Int.toNat 0)) else s.2.1 3 k) = _
    rw [if_pos ⟨Nat.zero_le _, by show k < 0 + a0.toNat; omega⟩]
    show s.2.1 1 (0 + (k - 0)) = _
    rw [Nat.zero_add, Nat.sub_zero]
  refine sx_meth (wr := true) (n := 400) hsL (e := eX11_load) rfl (w_dl (Q := fun _ _ _ => False) (Z1 := fun t => cx_I t ∧ dz_TN bb a0 t ∧ 0 ≤ a0 ∧ a0 ≤ s.1 0 1) (Z2 := fun t => cx_I t ∧ dz_TN bb a0 t ∧ (0 ≤ a0 ∧ a0 ≤ s.1 0 1) ∧ ∃ l, px_TX (px_K bb a0) l 0) (Z3 := fun t => cx_I t ∧ (0 ≤ a0 ∧ a0 ≤ s.1 0 1) ∧ ∀ l, ¬ px_TX (px_K bb a0) l 0) (Zr := fun t => (0 ≤ a0 ∧ a0 ≤ s.1 0 1) ∧ ∃ l, px_TX (px_K bb a0) l 0 ∧ px_ck (px_SN bb a0) l [] [] 0 ∧ (t.1 19 2 = (px_c3 3 l : Int) ∧ t.1 22 2 = (px_c3 4 l : Int) ∧ t.1 18 10 = (px_c3 5 l : Int)) ∧ ∃ C M, dz_E bb a0 C M t ∧ dl_pr bb a0 (vl_eq l [] []) t ∧ t.1 11 6 ≤ 960 ∧ M = vl_mf l [] ∧ C = vl_kf l [] ∧ dw_ro M M.length t) (Zw := (0 ≤ a0 ∧ a0 ≤ s.1 0 1) ∧ ∃ l, px_TX (px_K bb a0) l 0 ∧ ¬ px_ck (px_SN bb a0) l [] [] 0) (c_dz_gpl hsL (d + 1) (by omega)) (c_dz_chp hsL (d + 1) (by omega)) (c_dz_chn hsL (d + 1) (by omega)) hI ra (fun q => hK _ _ (Or.inl ⟨q, rfl, rfl⟩)) ?_ ?_ (fun _ q => q.1) ?_ ?_ ?_ ?_)
  · intro a b K' hK'
    exact c_dx_tkread hsL (d + 1) (by omega) bb a0 a0 _ K' i1 (by omega) rfl rfl (fun z t t1 _ t3 t4 t5 => hK' z t ⟨t1, fun _ => ⟨t3, t4, t5⟩, a, b⟩)
  · rintro t ⟨t1, t2, t3, t4⟩ K' k1 k2
    have tk := (t2 trivial).2.2
    have hF : ∀ c, cx_F [(7, 7)] t ((sx_uf t.1 7 1 c, t.2) : sx_S) := fun c => cx_F_uf rfl (cx_F_refl _ _)
    have r : ∀ c : Int, 0 ≤ c → px_lv bb a0 c.toNat → c ≤ 1000 := fun c h0 hl => by
      have q1 := (px_TK_kd tk h0 hl).2.2
      have q2 := (tk trivial).1
      omega
    refine c_dg_acc hsL bb a0 (d + 1) (by omega) t K' t1 tk (fun hl c c0 cl => k1 _ ⟨cx_I_uf rfl rfl t1 ?_ ?_, fun _ => ?_, ⟨t3, t4⟩, hl⟩) (fun hl c c0 cl => k2 _ ⟨cx_I_uf rfl rfl t1 ?_ ?_, ⟨t3, t4⟩, hl⟩)
    · omega
    · have := r c c0 cl
      omega
    · exact ⟨(t2 trivial).1, (t2 trivial).2.1, px_TK_F (hF c) rfl rfl rfl rfl tk⟩
    · omega
    · have := r c c0 cl
      omega
  · rintro u ⟨_, q1, q2⟩ t
    exact hK _ _ (Or.inr ⟨q1, px_an_cg (hbb q1.1) q1.1 (Or.inl ⟨rfl, q2⟩), fun z => absurd z (by decide)⟩)
  · rintro t ⟨t1, t2, t3, l, t4⟩ K' k1 k2
    exact h_ac bb a0 l t K' t1 t2 t4 (fun q u hu hc hx => k1 u hu ⟨t3, l, t4, q, hc, hx⟩) (fun q u hu => k2 ⟨t3, l, t4, q⟩ u hu)
  · rintro u uI ⟨q1, l, q2, q3, q4, C, M, q5, q6, q7, rfl, rfl, q8⟩
    have eK := px_K_cg (hbb q1.1)
    have eS : px_SN bb a0 = px_SN (s.2.1 1) a0 := by
      funext i j
      exact propext (px_sn_cg (hbb q1.1) i.toNat j.toNat q1.1)
    have q6' : dl_pr (s.2.1 1) a0 (vl_eq l [] []) u := fun _ k p hk => by
      obtain ⟨L, R, x, a1, a2, a3, a4⟩ := q6 trivial k p hk
      refine ⟨L, R, x, a1, a2, fun _ => ?_, fun _ => ?_⟩
      · have z := a3 trivial
        rw [eS] at z
        exact z
      · have z := a4 trivial
        rw [eS] at z
        exact z
    refine hK _ _ (Or.inr ⟨q1, px_an_cg (hbb q1.1) q1.1 (Or.inr ⟨l, q2, Or.inl ⟨rfl, q3⟩⟩), fun _ => ⟨cx_I_uf rfl rfl uI (by omega) (by omega), l, by rw [← eK]; exact q2, by rw [← eS]; exact q3, q4, bb, hbb q1.1, eS, ?_, ?_, q7, ?_⟩⟩)
    · exact fun _ => q5 trivial
    · exact fun _ => q6' trivial
    · exact dw_ro_mono (u := u) (fun _ => ⟨Int.le_refl _, fun _ _ => ⟨rfl, rfl, rfl, rfl, rfl⟩⟩) ⟨Int.le_refl _, fun _ _ => rfl⟩ (fun _ => ⟨Int.le_refl _, fun _ => ⟨rfl, rfl⟩⟩) (fun _ _ => rfl) q8
  · rintro ⟨q1, l, q2, q3⟩ t
    exact hK _ _ (Or.inr ⟨q1, px_an_cg (hbb q1.1) q1.1 (Or.inr ⟨l, q2, Or.inr ⟨rfl, q3⟩⟩), fun z => absurd z (by decide)⟩)
/-- what load leaves, with the roots and the bytes of the text -/
def dk_LD (b : Nat → Int) (n : Int) (l : List vl_I) (s : sx_S) : Prop := True → dw_LD b n l s ∧ ∃ bb, (∀ k : Nat, (k : Int) < n → bb k = b k) ∧ dz_E bb n (vl_kf l []) (vl_mf l []) s
theorem dk_LD_c {b : Nat → Int} {n : Int} {l : List vl_I} {s t : sx_S} (h : ∀ p, 2 ≤ p → p ≤ 28 → t.1 p = s.1 p ∧ t.2.1 p = s.2.1 p) (g : dk_LD b n l s) : dk_LD b n l t := fun _ => by
  obtain ⟨g1, bb, g2, g3⟩ := g trivial
  exact ⟨dw_LD_c h g1, bb, g2, dz_E_c h g3⟩
theorem c_DK_load {sL : Nat} {sx : Nat → Int32} (hsL : sL ≤ 3072) (d : Nat) (hd : 170 ≤ d) : ∀ (a0 : Int) (s : sx_S) (K : Int → sx_S → Prop), cx_I s → (-2147483648 ≤ a0 ∧ a0 ≤ 2147483647) → (a0 < 0 ∨ s.1 0 1 < a0 → K (-1) s) → (0 ≤ a0 → a0 ≤ s.1 0 1 → ∀ z t, cx_I t → cx_F [(0, 28)] s t → t.1 0 1 = 0 → px_an (s.2.1 1) a0 z → ((z = 0 ∧ t.1 0 2 = 1 ∧ t.1 0 3 = -1 ∧ ∃ l, px_TX (px_K (s.2.1 1) a0) l 0 ∧ dk_LD (s.2.1 1) a0 l t) ∨ (z ≠ 0 ∧ t.1 0 2 = 0)) → K z t) → sx_C sL sx d 138 [.inr (.inl 0), .inl a0] s K := by
  intro a0 s K hI ra hN hK
  obtain ⟨d, rfl⟩ : ∃ e, d = e + 3 := ⟨d - 3, by omega⟩
  have hL : ∀ K' : Int → sx_S → Prop, (∀ (z : Int) (t : sx_S), (((a0 < 0 ∨ s.1 0 1 < a0) ∧ z = -1 ∧ t = s) ∨ ((0 ≤ a0 ∧ a0 ≤ s.1 0 1) ∧ px_an (s.2.1 1) a0 z ∧ (z = 0 → cx_I t ∧ ∃ l, px_TX (px_K (s.2.1 1) a0) l 0 ∧ px_ck (px_SN (s.2.1 1) a0) l [] [] 0 ∧ (t.1 19 2 = (px_c3 3 l : Int) ∧ t.1 22 2 = (px_c3 4 l : Int) ∧ t.1 18 10 = (px_c3 5 l : Int)) ∧ ∃ bb, (∀ k : Nat, (k : Int) < a0 → bb k = s.2.1 1 k) ∧ px_SN bb a0 = px_SN (s.2.1 1) a0 ∧ dz_E bb a0 (vl_kf l []) (vl_mf l []) t ∧ dl_pr (s.2.1 1) a0 (vl_eq l [] []) t ∧ t.1 11 6 ≤ 960 ∧ dw_ro (vl_mf l []) (vl_mf l []).length t))) → K' z t) → sx_C sL sx (d + 1 + 2) 138 [.inr (.inl 0), .inl a0] s K' := fun K' hK' => st_dk_load hsL (d := d + 1) (by omega) (fun b n => st_dw_acc hsL (d := d) (by omega) b n (fun a0 a1 s K h1 h2 h3 hK => c_nodeC hsL (d + 1) (by omega) a0 a1 s K h1 h2 h3 (fun z t t1 t2 t3 _ _ _ _ => hK z t t1 ⟨by rw [(t2.same 18 rfl).1], by rw [(t2.same 19 rfl).1], by rw [(t2.same 22 rfl).1]⟩ t3)) (fun a0 a1 s K h1 h2 h3 hK => c_completeC hsL (d + 1) (by omega) a0 a1 0 s K h1 h2 h3 (by omega) (fun z t t1 t2 t3 _ _ _ _ => hK z t t1 ⟨by rw [(t2.same 18 rfl).1], by rw [(t2.same 19 rfl).1], by rw [(t2.same 22 rfl).1]⟩ t3))) a0 s K' hI ra hK'
  have r01 := hI.fld 0 1 (by decide) rfl
  by_cases hx : 0 ≤ a0 ∧ a0 ≤ s.1 0 1
  · refine sx_bothM (e := eX11_load) rfl (c_dload3 hsL (d + 3) (by omega) a0 s (fun z t => cx_I t ∧ cx_F [(0, 28)] s t ∧ (-2147483648 ≤ z ∧ z ≤ 2147483647) ∧ t.1 0 1 = 0 ∧ (z = 0 ∧ t.1 0 2 = 1 ∧ t.1 0 3 = -1 ∨ z ≠ 0 ∧ t.1 0 2 = 0)) hI ra (fun z t t1 t2 t3 t4 => ⟨t1, t2, t3, ?_⟩)) (hL (fun z t => px_an (s.2.1 1) a0 z ∧ (z = 0 → cx_I t ∧ ∃ l, px_TX (px_K (s.2.1 1) a0) l 0 ∧ px_ck (px_SN (s.2.1 1) a0) l [] [] 0 ∧ (t.1 19 2 = (px_c3 3 l : Int) ∧ t.1 22 2 = (px_c3 4 l : Int) ∧ t.1 18 10 = (px_c3 5 l : Int)) ∧ ∃ bb, (∀ k : Nat, (k : Int) < a0 → bb k = s.2.1 1 k) ∧ px_SN bb a0 = px_SN (s.2.1 1) a0 ∧ dz_E bb a0 (vl_kf l []) (vl_mf l []) t ∧ dl_pr (s.2.1 1) a0 (vl_eq l [] []) t ∧ t.1 11 6 ≤ 960 ∧ dw_ro (vl_mf l []) (vl_mf l []).length t)) (fun z t h => ?_)) (fun z1 t1 z2 t2 k1 k2 hz hh => ?_)
    · rcases t4 with ⟨q, _⟩ | ⟨_, _, q⟩
      · omega
      · exact q
    · rcases h with ⟨q, _⟩ | ⟨_, q⟩
      · omega
      · exact q
    · obtain ⟨c1, c2, c3, c4, c5⟩ := k1
      obtain ⟨k2, k3⟩ := k2
      have hr := px_an_r k2
      have ez : z1 = z2 := sx_vo_int hz c3 (by omega)
      rw [← ez] at k2 k3
      rcases c5 with ⟨c5, c6, c7⟩ | ⟨c5, c6⟩
      · obtain ⟨q0, l, q1, q2, ⟨q3, q4, q5⟩, bb, qb, q6, q7, q8, q9, q10⟩ := k3 c5
        have o0 := sx_mg_out (a := t1) (b := t2) (Or.inl (rfl : (0 : Nat) = 0))
        refine ⟨sx_mg t1 t2, sx_mg_hp hh, rfl, hK hx.1 hx.2 z1 _ (sx_mg_I c1 q0) (sx_mg_F c2) (by rw [o0.1]; exact c4) k2 (Or.inl ⟨c5, by rw [o0.1]; exact c6, by rw [o0.1]; exact c7, l, q1, ?_⟩)⟩
        exact dk_LD_c (fun p h1 h2 => sx_mg_in (by omega) h2) (fun _ => ⟨fun _ => ⟨dl_LD_mk ⟨hx.1, by omega⟩ q1 q2 q5 q7 q8 q9, q10⟩, bb, qb, q7⟩)
      · exact ⟨t1, rfl, rfl, hK hx.1 hx.2 z1 t1 c1 c2 c4 k2 (Or.inr ⟨c5, c6⟩)⟩
  · refine hL K (fun z t h => ?_)
    rcases h with ⟨q1, q2, q3⟩ | ⟨q, _⟩
    · rw [q2, q3]
      exact hN q1
    · exact absurd q hx
end
