/-! ===== two most general solutions: what is written of them ===== -/
theorem wz_both2 {S T : vx_S} {n0 : Int} {Q : (Int → rf_N) → Prop} {th th' : Int → rf_N} (h : wz_MG S n0 Q th) (h' : wz_MG T n0 Q th') (ha : ∀ u, 0 ≤ u → u < n0 → T.2.2.1 u = S.2.2.1 u) : ∃ π π' I J, (∀ u, 0 ≤ u → u < n0 → wz_rl π π' I J (th u) (th' u)) ∧ ∀ (A : rf_N) (AR : Nat → List Int) (e : Int → Int) (L : Int), wz_nn A → vx_ok S.2.2.1 AR A → (∀ m, vx_mt m A → 0 ≤ m ∧ m < n0) → wz_rl π π' I J (vx_val th AR A e L) (vx_val th' AR A e L) := by
  obtain ⟨⟨W, B1, rk, hr⟩, nn, ⟨hS, ho⟩, hQ, hn, hE⟩ := h trivial
  obtain ⟨⟨W', B1', rk', hr'⟩, nn', ⟨hS', ho'⟩, hQ', hn', hE'⟩ := h' trivial
  obtain ⟨σ, σ1, σ2⟩ := hE th' hS'.1 (fun u u0 u1 => by rw [← ha u u0 u1]; exact hS'.2.1 u u0 (by omega)) (hQ' th' hS')
  obtain ⟨τ, τ1, τ2⟩ := hE' th hS.1 (fun u u0 u1 => by rw [ha u u0 u1]; exact hS.2.1 u u0 (by omega)) (hQ th hS)
  have a := wz_sol hr W B1 hS ho nn σ1
  have b := wz_sol hr' W' B1' hS' ho' nn' τ1
  refine ⟨fun h => wz_hd (σ (-1 - h)), fun h => wz_hd (τ (-1 - h)), fun h => dz_hs (wz_F (σ (-1 - h))), fun h => dz_hs (wz_F (τ (-1 - h))), fun u u0 u1 => ?_, fun A AR e L hA hok hm => ?_⟩
  · obtain ⟨a1, a2⟩ := a u u0 (by omega)
    obtain ⟨b1, b2⟩ := b u u0 (by omega)
    rw [σ2 u u0 u1] at a2
    rw [τ2 u u0 u1, ha u u0 u1] at b2
    rw [a2] at b1 b2 ⊢
    exact wz_mut σ1.1 τ1.1 σ1.2.1 τ1.2.1 a1 b1 b2.symm
  · have v1 : wz_in σ (vx_val th AR A e L) L = vx_val th' AR A e L := wz_in_val (n := S.1) (ar0 := S.2.2.1) σ1.1 (fun m => (hS.1 m).1) hA hok (fun m hm' => by
      obtain ⟨m0, m1⟩ := hm m hm'
      obtain ⟨a1, a2⟩ := a m m0 (by omega)
      exact ⟨a1, by first | exact (σ2 m m0 m1).symm.trans a2 | exact (σ2 m m0 m1).trans a2⟩)
    have hok' : vx_ok T.2.2.1 AR A := vx_ok_cg (fun m hm' => by
      obtain ⟨m0, m1⟩ := hm m hm'
      exact ha m m0 m1) (fun _ _ => rfl) hok
    have v2 : wz_in τ (vx_val th' AR A e L) L = vx_val th AR A e L := wz_in_val (n := T.1) (ar0 := T.2.2.1) τ1.1 (fun m => (hS'.1 m).1) hA hok' (fun m hm' => by
      obtain ⟨m0, m1⟩ := hm m hm'
      obtain ⟨b1, b2⟩ := b m m0 (by omega)
      exact ⟨b1, by first | exact (τ2 m m0 m1).symm.trans b2 | exact (τ2 m m0 m1).trans b2⟩)
    have o1 : wz_ok S.1 S.2.2.1 (vx_val th AR A e L) := wz_ok_val (fun m => (hS.1 m).1) hA (fun m hm' => by
      obtain ⟨m0, m1⟩ := hm m hm'
      exact (a m m0 (by omega)).1)
    have o2 : wz_ok T.1 T.2.2.1 (vx_val th' AR A e L) := wz_ok_val (fun m => (hS'.1 m).1) hA (fun m hm' => by
      obtain ⟨m0, m1⟩ := hm m hm'
      exact (b m m0 (by omega)).1)
    rw [← v1] at o2 v2 ⊢
    exact wz_mut σ1.1 τ1.1 σ1.2.1 τ1.2.1 o1 o2 v2
/-- the holes that are met are those of open unknowns -/
theorem wz_oc_op {S : vx_S} {th : Int → rf_N} {rk : Int → Nat} (hr : vx_rk S rk) (hW : vx_W S) (hS : vx_So S th) (ho : ∀ u, S.2.2.2.1 u = none → th u = vx_gn S.2.2.1 u) (hn : ∀ u B e, S.2.2.2.1 u = some (B, e) → wz_nn B) (hb : ∀ u B e, S.2.2.2.1 u = some (B, e) → th u = vx_val th S.2.2.2.2 B e (S.2.2.1 u)) {x : Int} : ∀ (k : Nat) (u : Int), rk u < k → wz_oc x (th u) → ∃ m, x = -1 - m ∧ S.2.2.2.1 m = none
  | 0, _, h, _ => absurd h (Nat.not_lt_zero _)
  | k + 1, u, h, hx => by
    cases e : S.2.2.2.1 u with
    | none =>
      rw [ho u e] at hx
      have hx' : wz_oc x (.inner 0 (1, -1 - u) () (vx_vs (S.2.2.1 u).toNat 0) .leaf) := hx
      rw [wz_oc_in] at hx'
      by_cases c : (1 : Int) = 1 ∧ -1 - u < 0
      · rw [if_pos c] at hx'
        rcases hx' with q | q
        · exact ⟨u, q.symm, e⟩
        · exact q.elim
      · rw [if_neg c] at hx'
        rcases hx' with q | q
        · exfalso
          have vr := (wz_vs (S.2.2.1 u).toNat 0).1
          have no : ∀ {F : rf_N}, wz_vr F → ¬ wz_oc x F := fun {F} => by
            induction F with
            | leaf => exact fun _ z => z
            | inner j q u F X _ ihX =>
              intro hv hz
              obtain ⟨⟨v1, v2⟩, v3⟩ := hv
              rw [wz_oc_in, if_neg (by omega), v2] at hz
              rcases hz with z | z
              · exact z
              · exact ihX v3 z
          exact no vr q
        · exact q.elim
    | some p =>
      obtain ⟨B, e'⟩ := p
      rw [hb u B e' e] at hx
      obtain ⟨m, m1, m2⟩ := we_val_oc (fun m => (hS.1 m).1) (hn u B e' e) hx
      exact wz_oc_op hr hW hS ho hn hb k m (by have := hr u B e' m e m1; omega) m2
/-- rows of holes -/
def wz_hr (P : List Int → Prop) : rf_N → Prop
  | .leaf => True
  | .inner _ q _ F X => (if q.1 = 1 ∧ q.2 < 0 then P (dz_hs F) else wz_hr P F) ∧ wz_hr P X
theorem wz_hr_in {P : List Int → Prop} {j : Nat} {q : Int × Int} {u : Unit} {F X : rf_N} : wz_hr P (.inner j q u F X) ↔ (if q.1 = 1 ∧ q.2 < 0 then P (dz_hs F) else wz_hr P F) ∧ wz_hr P X := Iff.rfl
theorem wz_ad_P {P : List Int → Prop} {a : List (Int × List Int)} {h : Int} {xs : List Int} (hx : P xs) (ha : ∀ p ∈ a, P p.2) : ∀ p ∈ wz_ad a h xs, P p.2 := fun p hp => by
  unfold wz_ad at hp
  by_cases c : h ∈ a.map Prod.fst
  · rw [if_pos c] at hp
    exact ha p hp
  · rw [if_neg c] at hp
    rcases List.mem_append.mp hp with hp | hp
    · exact ha p hp
    · rw [List.mem_singleton.mp hp]
      exact hx
theorem wz_go_P {P : List Int → Prop} : ∀ {A : rf_N} {a : List (Int × List Int)}, wz_hr P A → (∀ p ∈ a, P p.2) → ∀ p ∈ wz_go A a, P p.2
  | .leaf, _, _, ha => ha
  | .inner j q u F X, a, h, ha => by
    obtain ⟨h1, h2⟩ := wz_hr_in.mp h
    rw [wz_go_in]
    refine wz_go_P h2 ?_
    by_cases c : q.1 = 1 ∧ q.2 < 0
    · rw [if_pos c] at h1 ⊢
      exact wz_ad_P h1 ha
    · rw [if_neg c] at h1 ⊢
      exact wz_go_P h1 ha
theorem wz_al_P {P : List Int → Prop} {th : Int → rf_N} : ∀ {n : Nat}, (∀ k : Nat, k < n → wz_hr P (th (k : Int))) → ∀ p ∈ wz_al th n, P p.2
  | 0, _ => fun _ h => absurd h List.not_mem_nil
  | n + 1, h => wz_go_P (h n (by omega)) (wz_al_P (fun k hk => h k (by omega)))
theorem wt_hr {tc : Int → rf_T} {nC : Int} {ht : Int → List rf_T} : ∀ {A : rf_N}, (∀ {Γ : Int → rf_T} {L : Int} {t : rf_T}, (wt tc nC ht A).1 Γ L t → wz_hr (fun xs => ∀ y ∈ xs, 0 ≤ y) (vx_1 A)) ∧ (∀ {Γ : Int → rf_T} {L : Int} {t : rf_T}, (wt tc nC ht A).2 Γ L t → wz_hr (fun xs => ∀ y ∈ xs, 0 ≤ y) A)
  | .leaf => ⟨fun h => h.elim, fun _ => trivial⟩
  | .inner j q u F X => by
    obtain ⟨f1, f2⟩ := wt_hr (tc := tc) (nC := nC) (ht := ht) (A := F)
    obtain ⟨_, x2⟩ := wt_hr (tc := tc) (nC := nC) (ht := ht) (A := X)
    have one : ∀ {Γ : Int → rf_T} {L : Int} {t : rf_T}, (wt tc nC ht (.inner j q u F X)).1 Γ L t → (if q.1 = 1 ∧ q.2 < 0 then ∀ y ∈ dz_hs F, 0 ≤ y else wz_hr (fun xs => ∀ y ∈ xs, 0 ≤ y) F) := fun {Γ L t} h => by
      rcases h with ⟨z, on, a, B, e1, y1⟩ | ⟨z, _, y1⟩ | ⟨z1, z2, e1, y1⟩ | ⟨z1, e1, y1⟩
      · rw [if_neg (by omega)]
        have q1 := f1 y1
        rw [we_on_1 on] at q1
        exact q1
      · rw [if_pos z]
        intro y hy
        obtain ⟨i, hi⟩ := List.mem_iff_getElem?.mp hy
        exact (y1 i y hi).2
      · rw [if_neg (by omega)]
        exact f2 y1
      · rw [if_neg (by omega)]
        exact f2 y1
    refine ⟨fun h => ⟨one h, trivial⟩, fun h => ?_⟩
    obtain ⟨A1, B1, _, y1, y2⟩ := wt_2.mp h
    exact ⟨one y1, x2 y2⟩
/-- the name of a constant in the text -/
def wy_nm (b : Nat → Int) (n : Int) (C : List (Int × qx_T)) (h : Int) : List Int := (((C[h.toNat]?).map (fun e : Int × qx_T => (List.range (px_en b n (px_ps b n e.1.toNat) - px_ps b n e.1.toNat).toNat).map (fun j : Nat => b (px_ps b n e.1.toNat + (j : Int)).toNat)))).getD []
/-- the types of the variables; the text is right -/
def wy_V (b : Nat → Int) (n : Int) (l : List vl_I) (TV : Int → qx_T → Prop) : Prop := (∃ tv : Int → rf_T, ∀ v T, TV v T → tv v = qx_sh T) ∧ px_ck (px_SN b n) l [] [] 0
/-- a most general solution of the text, with what is wanted to write it -/
def wy_Z (b : Nat → Int) (n : Int) (l : List vl_I) (TV : Int → qx_T → Prop) (AR : Nat → List Int) (tl : vw_L) (S : vx_S) (th : Int → rf_N) (ht : Int → List rf_T) (nm : Int → List Int) : Prop := True → (vl_tx (px_SN b n) TV AR l [] [] tl ∧ wz_MG S ((vl_mf l []).length : Int) (dv_Q AR tl) th ∧ ∀ v, 0 ≤ v → v < ((vl_mf l []).length : Int) → S.2.2.1 v = dl_ra (vl_mf l []) v) ∧ wt_rows (wz_al th (vl_mf l []).length) ∧ (∀ h, 0 ≤ h → h < ((vl_kf l []).length : Int) → nm h = wy_nm b n (vl_kf l []) h) ∧ wy_V b n l TV ∧ ∀ (k : Nat) p, (vl_mf l [])[k]? = some p → (wt (dl_tc (vl_kf l [])) ((vl_kf l []).length : Int) ht (vq_lm (rf_args (qx_sh p.2)).length (th (k : Int)))).1 (fun _ => rf_b) 0 (qx_sh p.2)
/-- what is written of the unknown k -/
def wy_o (l : List vl_I) (th : Int → rf_N) (ht : Int → List rf_T) (nm : Int → List Int) (p : Int × qx_T) (k : Nat) : List Int := ((we_W (wk_E nm ht) (vq_lm (rf_args (qx_sh p.2)).length (th (k : Int)))).1 0 (wz_al th (vl_mf l []).length, [])).2
