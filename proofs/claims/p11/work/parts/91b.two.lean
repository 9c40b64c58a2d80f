section
/-! ===== two most general solutions: what is written of them ===== -/
theorem wz_both2 {S T : vx_S} {n0 : Int} {Q : (Int → rf_N) → Prop} {th th' : Int → rf_N} (h : wz_MG S n0 Q th) (h' : wz_MG T n0 Q th') (ha : ∀ u, 0 ≤ u → u < n0 → T.2.2.1 u = S.2.2.1 u) : ∃ π π' I J, (∀ u, 0 ≤ u → u < n0 → wz_rl π π' I J (th u) (th' u)) ∧ ∀ (A : rf_N) (AR : Nat → List Int) (e : Int → Int) (L : Int), wz_nn A → vx_ok S.2.2.1 AR A → (∀ m, vx_mt m A → 0 ≤ m ∧ m < n0) → wz_rl π π' I J (vx_val th AR A e L) (vx_val th' AR A e L) := by
  obtain ⟨⟨W, B1, rk, hr⟩, nn, ⟨hS, ho⟩, hQ, hn, hE⟩ := h trivial
  obtain ⟨⟨W', B1', rk', hr'⟩, nn', ⟨hS', ho'⟩, hQ', hn', hE'⟩ := h' trivial
  obtain ⟨σ, σ1, σ2⟩ := hE th' hS'.1 (fun u u0 u1 => by rw [← ha u u0 u1]; exact hS'.2.1 u u0 (by omega)) (hQ' th' hS')
  obtain ⟨τ, τ1, τ2⟩ := hE' th hS.1 (fun u u0 u1 => by rw [ha u u0 u1]; exact hS.2.1 u u0 (by omega)) (hQ th hS)
  have a := wz_sol hr W B1 hS ho nn σ1
  have b := wz_sol hr' W' B1' hS' ho' nn' τ1
  refine ⟨fun h => wz_hd (σ (-1 - h)), fun h => wz_hd (τ (-1 - h)), fun h => dz_hs (wz_F (σ (-1 - h))), fun h => dz_hs (wz_F (τ (-1 - h))), fun u u0 u1 => ?_, fun A AR e L hA hok hm => ?_⟩
  · obtain ⟨a1, a2⟩ := a u u0 (by omega)
    obtain ⟨b1, b2⟩ := b u u0 (by omega)
    rw [σ2 u u0 u1] at a2
    rw [τ2 u u0 u1, ha u u0 u1] at b2
    rw [a2] at b1 b2 ⊢
    exact wz_mut σ1.1 τ1.1 σ1.2.1 τ1.2.1 a1 b1 b2.symm
  · have v1 : wz_in σ (vx_val th AR A e L) L = vx_val th' AR A e L := wz_in_val (n := S.1) (ar0 := S.2.2.1) σ1.1 (fun m => (hS.1 m).1) hA hok (fun m hm' => by
      obtain ⟨m0, m1⟩ := hm m hm'
      obtain ⟨a1, a2⟩ := a m m0 (by omega)
      exact ⟨a1, by first | exact (σ2 m m0 m1).symm.trans a2 | exact (σ2 m m0 m1).trans a2⟩)
    have hok' : vx_ok T.2.2.1 AR A := vx_ok_cg (fun m hm' => by
      obtain ⟨m0, m1⟩ := hm m hm'
      exact ha m m0 m1) (fun _ _ => rfl) hok
    have v2 : wz_in τ (vx_val th' AR A e L) L = vx_val th AR A e L := wz_in_val (n := T.1) (ar0 := T.2.2.1) τ1.1 (fun m => (hS'.1 m).1) hA hok' (fun m hm' => by
      obtain ⟨m0, m1⟩ := hm m hm'
      obtain ⟨b1, b2⟩ := b m m0 (by omega)
      exact ⟨b1, by first | exact (τ2 m m0 m1).symm.trans b2 | exact (τ2 m m0 m1).trans b2⟩)
    have o1 : wz_ok S.1 S.2.2.1 (vx_val th AR A e L) := wz_ok_val (fun m => (hS.1 m).1) hA (fun m hm' => by
      obtain ⟨m0, m1⟩ := hm m hm'
      exact (a m m0 (by omega)).1)
    have o2 : wz_ok T.1 T.2.2.1 (vx_val th' AR A e L) := wz_ok_val (fun m => (hS'.1 m).1) hA (fun m hm' => by
      obtain ⟨m0, m1⟩ := hm m hm'
      exact (b m m0 (by omega)).1)
    rw [← v1] at o2 v2 ⊢
    exact wz_mut σ1.1 τ1.1 σ1.2.1 τ1.2.1 o1 o2 v2
/-- the holes that are met are those of open unknowns -/
theorem wz_oc_op {S : vx_S} {th : Int → rf_N} {rk : Int → Nat} (hr : vx_rk S rk) (hW : vx_W S) (hS : vx_So S th) (ho : ∀ u, S.2.2.2.1 u = none → th u = vx_gn S.2.2.1 u) (hn : ∀ u B e, S.2.2.2.1 u = some (B, e) → wz_nn B) (hb : ∀ u B e, S.2.2.2.1 u = some (B, e) → th u = vx_val th S.2.2.2.2 B e (S.2.2.1 u)) {x : Int} : ∀ (k : Nat) (u : Int), rk u < k → wz_oc x (th u) → ∃ m, x = -1 - m ∧ S.2.2.2.1 m = none
  | 0, _, h, _ => absurd h (Nat.not_lt_zero _)
  | k + 1, u, h, hx => by
    cases e : S.2.2.2.1 u with
    | none =>
      rw [ho u e] at hx
      have hx' : wz_oc x (.inner 0 (1, -1 - u) () (vx_vs (S.2.2.1 u).toNat 0) .leaf) := hx
      rw [wz_oc_in] at hx'
      by_cases c : (1 : Int) = 1 ∧ -1 - u < 0
      · rw [if_pos c] at hx'
        rcases hx' with q | q
        · exact ⟨u, q.symm, e⟩
        · exact q.elim
      · rw [if_neg c] at hx'
        rcases hx' with q | q
        · exfalso
          have vr := (wz_vs (S.2.2.1 u).toNat 0).1
          have no : ∀ {F : rf_N}, wz_vr F → ¬ wz_oc x F := fun {F} => by
            induction F with
            | leaf => exact fun _ z => z
            | inner j q u F X _ ihX =>
              intro hv hz
              obtain ⟨⟨v1, v2⟩, v3⟩ := hv
              rw [wz_oc_in, if_neg (by omega), v2] at hz
              rcases hz with z | z
              · exact z
              · exact ihX v3 z
          exact no vr q
        · exact q.elim
    | some p =>
      obtain ⟨B, e'⟩ := p
      rw [hb u B e' e] at hx
      obtain ⟨m, m1, m2⟩ := we_val_oc (fun m => (hS.1 m).1) (hn u B e' e) hx
      exact wz_oc_op hr hW hS ho hn hb k m (by have := hr u B e' m e m1; omega) m2
/-- rows of holes -/
def wz_hr (P : List Int → Prop) : rf_N → Prop
  | .leaf => True
  | .inner _ q _ F X => (if q.1 = 1 ∧ q.2 < 0 then P (dz_hs F) else wz_hr P F) ∧ wz_hr P X
theorem wz_hr_in {P : List Int → Prop} {j : Nat} {q : Int × Int} {u : Unit} {F X : rf_N} : wz_hr P (.inner j q u F X) ↔ (if q.1 = 1 ∧ q.2 < 0 then P (dz_hs F) else wz_hr P F) ∧ wz_hr P X := Iff.rfl
theorem wz_ad_P {P : List Int → Prop} {a : List (Int × List Int)} {h : Int} {xs : List Int} (hx : P xs) (ha : ∀ p ∈ a, P p.2) : ∀ p ∈ wz_ad a h xs, P p.2 := fun p hp => by
  unfold wz_ad at hp
  by_cases c : h ∈ a.map Prod.fst
  · rw [if_pos c] at hp
    exact ha p hp
  · rw [if_neg c] at hp
    rcases List.mem_append.mp hp with hp | hp
    · exact ha p hp
    · rw [List.mem_singleton.mp hp]
      exact hx
theorem wz_go_P {P : List Int → Prop} : ∀ {A : rf_N} {a : List (Int × List Int)}, wz_hr P A → (∀ p ∈ a, P p.2) → ∀ p ∈ wz_go A a, P p.2
  | .leaf, _, _, ha => ha
  | .inner j q u F X, a, h, ha => by
    obtain ⟨h1, h2⟩ := wz_hr_in.mp h
    rw [wz_go_in]
    refine wz_go_P h2 ?_
    by_cases c : q.1 = 1 ∧ q.2 < 0
    · rw [if_pos c] at h1 ⊢
      exact wz_ad_P h1 ha
    · rw [if_neg c] at h1 ⊢
      exact wz_go_P h1 ha
theorem wz_al_P {P : List Int → Prop} {th : Int → rf_N} : ∀ {n : Nat}, (∀ k : Nat, k < n → wz_hr P (th (k : Int))) → ∀ p ∈ wz_al th n, P p.2
  | 0, _ => fun _ h => absurd h List.not_mem_nil
  | n + 1, h => wz_go_P (h n (by omega)) (wz_al_P (fun k hk => h k (by omega)))
theorem wt_hr {tc : Int → rf_T} {nC : Int} {ht : Int → List rf_T} : ∀ {A : rf_N}, (∀ {Γ : Int → rf_T} {L : Int} {t : rf_T}, (wt tc nC ht A).1 Γ L t → wz_hr (fun xs => ∀ y ∈ xs, 0 ≤ y) (vx_1 A)) ∧ (∀ {Γ : Int → rf_T} {L : Int} {t : rf_T}, (wt tc nC ht A).2 Γ L t → wz_hr (fun xs => ∀ y ∈ xs, 0 ≤ y) A)
  | .leaf => ⟨fun h => h.elim, fun _ => trivial⟩
  | .inner j q u F X => by
    obtain ⟨f1, f2⟩ := wt_hr (tc := tc) (nC := nC) (ht := ht) (A := F)
    obtain ⟨_, x2⟩ := wt_hr (tc := tc) (nC := nC) (ht := ht) (A := X)
    have one : ∀ {Γ : Int → rf_T} {L : Int} {t : rf_T}, (wt tc nC ht (.inner j q u F X)).1 Γ L t → (if q.1 = 1 ∧ q.2 < 0 then ∀ y ∈ dz_hs F, 0 ≤ y else wz_hr (fun xs => ∀ y ∈ xs, 0 ≤ y) F) := fun {Γ L t} h => by
      rcases h with ⟨z, on, a, B, e1, y1⟩ | ⟨z, _, y1⟩ | ⟨z1, z2, e1, y1⟩ | ⟨z1, e1, y1⟩
      · rw [if_neg (by omega)]
        have q1 := f1 y1
        rw [we_on_1 on] at q1
        exact q1
      · rw [if_pos z]
        intro y hy
        obtain ⟨i, hi⟩ := List.mem_iff_getElem?.mp hy
        exact (y1 i y hi).2
      · rw [if_neg (by omega)]
        exact f2 y1
      · rw [if_neg (by omega)]
        exact f2 y1
    refine ⟨fun h => ⟨one h, trivial⟩, fun h => ?_⟩
    obtain ⟨A1, B1, _, y1, y2⟩ := wt_2.mp h
    exact ⟨one y1, x2 y2⟩
/-- the name of a constant in the text -/
def wy_nm (b : Nat → Int) (n : Int) (C : List (Int × qx_T)) (h : Int) : List Int := (((C[h.toNat]?).map (fun e : Int × qx_T => (List.range (px_en b n (px_ps b n e.1.toNat) - px_ps b n e.1.toNat).toNat).map (fun j : Nat => b (px_ps b n e.1.toNat + (j : Int)).toNat)))).getD []
/-- the types of the variables; the text is right -/
def wy_V (b : Nat → Int) (n : Int) (l : List vl_I) (TV : Int → qx_T → Prop) : Prop := (∃ tv : Int → rf_T, ∀ v T, TV v T → tv v = qx_sh T) ∧ px_ck (px_SN b n) l [] [] 0
/-- a most general solution of the text, with what is wanted to write it -/
def wy_Z (b : Nat → Int) (n : Int) (l : List vl_I) (TV : Int → qx_T → Prop) (AR : Nat → List Int) (tl : vw_L) (S : vx_S) (th : Int → rf_N) (ht : Int → List rf_T) (nm : Int → List Int) : Prop := True → (vl_tx (px_SN b n) TV AR l [] [] tl ∧ wz_MG S ((vl_mf l []).length : Int) (dv_Q AR tl) th ∧ ∀ v, 0 ≤ v → v < ((vl_mf l []).length : Int) → S.2.2.1 v = dl_ra (vl_mf l []) v) ∧ wt_rows (wz_al th (vl_mf l []).length) ∧ (∀ h, 0 ≤ h → h < ((vl_kf l []).length : Int) → nm h = wy_nm b n (vl_kf l []) h) ∧ wy_V b n l TV ∧ ∀ (k : Nat) p, (vl_mf l [])[k]? = some p → (wt (dl_tc (vl_kf l [])) ((vl_kf l []).length : Int) ht (vq_lm (rf_args (qx_sh p.2)).length (th (k : Int)))).1 (fun _ => rf_b) 0 (qx_sh p.2)
/-- what is written of the unknown k -/
def wy_o (l : List vl_I) (th : Int → rf_N) (ht : Int → List rf_T) (nm : Int → List Int) (p : Int × qx_T) (k : Nat) : List Int := ((we_W (wk_E nm ht) (vq_lm (rf_args (qx_sh p.2)).length (th (k : Int)))).1 0 (wz_al th (vl_mf l []).length, [])).2
end
section
/-! ===== typed values: variables renamed; values of typed trees under typed values ===== -/
theorem wt_hs_oc : ∀ {F : rf_N}, wz_vr F → ∀ y ∈ dz_hs F, vx_oc y F
  | .leaf, _, y, hy => absurd hy List.not_mem_nil
  | .inner j q u F X, h, y, hy => by
    have h1 : q.1 = 2 := h.1.1
    rcases List.mem_cons.mp hy with rfl | hy
    · exact Or.inl ⟨h1, rfl⟩
    · exact Or.inr (Or.inr (wt_hs_oc h.2 y hy))
theorem wt_re {tc : Int → rf_T} {nC : Int} {ht : Int → List rf_T} {n : Int} {ar : Int → Int} (ρ : Int → Int) : ∀ {A : rf_N}, wz_ok n ar A → ∀ {Γ Γ' : Int → rf_T} {La Lb : Int}, vx_sc A La → 0 ≤ Lb → (∀ v, vx_oc v A → v < La → Γ' (ρ v) = Γ v ∧ 0 ≤ ρ v ∧ ρ v < Lb) → (∀ i : Int, 0 ≤ i → ρ (La + i) = Lb + i) → (∀ t, (wt tc nC ht A).1 Γ La t → (wt tc nC ht (vx_re ρ A)).1 Γ' Lb t) ∧ (∀ t, (wt tc nC ht A).2 Γ La t → (wt tc nC ht (vx_re ρ A)).2 Γ' Lb t)
  | .leaf, _, _, _, _, _, _, _, _, _ => ⟨fun _ h => h.elim, fun _ h => h⟩
  | .inner j q u F X, hok, Γ, Γ', La, Lb, hsc, L0, hρ, hb => by
    obtain ⟨o1, o2, o3⟩ := wz_ok_in.mp hok
    obtain ⟨s0, s1, s2⟩ := hsc
    have hX := (wt_re (tc := tc) (nC := nC) (ht := ht) ρ o2 s2 L0 (fun v hv hl => hρ v (Or.inr (Or.inr hv)) hl) hb).2
    have one : ∀ t, (wt tc nC ht (.inner j q u F X)).1 Γ La t → (wt tc nC ht (vx_re ρ (.inner j q u F X))).1 Γ' Lb t := by
      intro t ty
      rcases ty with ⟨q0, on, a, B, e, y⟩ | ⟨⟨q1, q2⟩, e, y⟩ | ⟨q1, c, e, y⟩ | ⟨q2, e, y⟩
      · have oF : wz_ok n ar F := by
          rw [if_neg (by omega)] at o1
          exact o1
        have sF : vx_sc F (La + 1) := by
          rcases s1 with ⟨_, _, z⟩ | ⟨z, _⟩
          · exact z
          · exfalso
            rcases z with z | z
            · omega
            · omega
        have ih := (wt_re (tc := tc) (nC := nC) (ht := ht) ρ oF (Γ := fun l => if l = La then a else Γ l) (Γ' := fun l => if l = Lb then a else Γ' l) (La := La + 1) (Lb := Lb + 1) sF (by omega) (fun v hv hl => by
          by_cases c : v = La
          · have e1 := hb 0 (Int.le_refl _)
            rw [Int.add_zero, Int.add_zero] at e1
            rw [c, e1, if_pos rfl, if_pos rfl]
            exact ⟨rfl, L0, by omega⟩
          · obtain ⟨h1, h2, h3⟩ := hρ v (Or.inr (Or.inl hv)) (by omega)
            rw [if_neg (by omega), if_neg c]
            exact ⟨h1, h2, by omega⟩) (fun i hi => by
          have := hb (1 + i) (by omega)
          rw [show La + 1 + i = La + (1 + i) by omega, this]
          omega)).1 B y
        exact Or.inl ⟨q0, vx_re_on on, a, B, e, ih⟩
      · have c : q.1 = 1 ∧ q.2 < 0 := ⟨q1, q2⟩
        rw [if_pos c] at o1
        have sF : vx_sc F La := by
          rcases s1 with ⟨z, _⟩ | ⟨_, z⟩
          · omega
          · exact z
        have eh : (if q.1 = 2 then ρ q.2 else q.2) = q.2 := if_neg (by omega)
        refine Or.inr (Or.inl ⟨⟨q1, ?_⟩, e, fun i y' hy => ?_⟩)
        · show (if q.1 = 2 then ρ q.2 else q.2) < 0
          rw [eh]
          exact q2
        · show (ht (if q.1 = 2 then ρ q.2 else q.2)).getD i .leaf = Γ' y' ∧ 0 ≤ y'
          rw [eh]
          rw [wz_hs_re ρ o1.1, List.getElem?_map] at hy
          cases hz : (dz_hs F)[i]? with
          | none =>
            rw [hz] at hy
            cases hy
          | some z =>
            rw [hz] at hy
            have ey : ρ z = y' := Option.some.inj hy
            have hm := List.mem_of_getElem? hz
            obtain ⟨h1, h2, _⟩ := hρ z (Or.inr (Or.inl (wt_hs_oc o1.1 z hm))) (wz_vr_sc o1.1 sF z hm).2
            rw [← ey, h1]
            exact ⟨(y i z hz).1, h2⟩
      · have oF : wz_ok n ar F := by
          rw [if_neg (by omega)] at o1
          exact o1
        have sF : vx_sc F La := by
          rcases s1 with ⟨z, _⟩ | ⟨_, z⟩
          · omega
          · exact z
        have eh : (if q.1 = 2 then ρ q.2 else q.2) = q.2 := if_neg (by omega)
        have ih := (wt_re (tc := tc) (nC := nC) (ht := ht) ρ oF sF L0 (fun v hv hl => hρ v (Or.inr (Or.inl hv)) hl) hb).2 _ y
        refine Or.inr (Or.inr (Or.inl ⟨q1, ?_, e, ?_⟩))
        · show 0 ≤ (if q.1 = 2 then ρ q.2 else q.2) ∧ (if q.1 = 2 then ρ q.2 else q.2) < nC
          rw [eh]
          exact c
        · show (wt tc nC ht (vx_re ρ F)).2 Γ' Lb (tc (if q.1 = 2 then ρ q.2 else q.2))
          rw [eh]
          exact ih
      · have oF : wz_ok n ar F := by
          rw [if_neg (by omega)] at o1
          exact o1
        obtain ⟨⟨v0, v1⟩, sF⟩ : (0 ≤ q.2 ∧ q.2 < La) ∧ vx_sc F La := by
          rcases s1 with ⟨z, _⟩ | ⟨z1, z⟩
          · omega
          · refine ⟨?_, z⟩
            rcases z1 with z1 | z1
            · omega
            · exact z1.2
        have eh : (if q.1 = 2 then ρ q.2 else q.2) = ρ q.2 := if_pos q2
        have ih := (wt_re (tc := tc) (nC := nC) (ht := ht) ρ oF sF L0 (fun v hv hl => hρ v (Or.inr (Or.inl hv)) hl) hb).2 _ y
        refine Or.inr (Or.inr (Or.inr ⟨q2, e, ?_⟩))
        show (wt tc nC ht (vx_re ρ F)).2 Γ' Lb (Γ' (if q.1 = 2 then ρ q.2 else q.2))
        rw [eh, (hρ q.2 (Or.inl ⟨q2, rfl⟩) v1).1]
        exact ih
    refine ⟨one, fun t ty => ?_⟩
    obtain ⟨A, B, e, y1, y2⟩ := wt_2.mp ty
    exact ⟨A, B, e, one A y1, hX B y2⟩
/-- the values of the unknowns, each of its type -/
def wt_T (tc : Int → rf_T) (nC : Int) (ht : Int → List rf_T) (n : Int) (ar : Int → Int) (tm : Int → Int → rf_T) (v : rf_N) (m : Int) : Prop := wz_ok n ar v ∧ vx_sc v (ar m) ∧ ∀ Γ : Int → rf_T, (∀ i : Nat, (i : Int) < ar m → Γ (i : Int) = tm m (i : Int)) → (wt tc nC ht v).1 Γ (ar m) rf_b
theorem wt_sub {tv tc : Int → rf_T} {tm : Int → Int → rf_T} {nC : Int} {ht : Int → List rf_T} {n : Int} {ar : Int → Int} {th : Int → rf_N} {AR : Nat → List Int} (hg : vx_gd th) : ∀ {A : rf_N}, (∀ m, vx_mt m A → wt_T tc nC ht n ar tm (th m) m) → vx_ok ar AR A → wk_kc nC A → wz_nn A → (∀ (e : Int → Int) (L : Int) (lt : Int → rf_T) (t : rf_T), A ≠ .leaf → 0 ≤ L → (vx_ty tv tc tm AR (vx_1 A)).1 t → (∀ z, vx_fv (fun _ _ => True) AR z (vx_1 A) → (0 ≤ e z ∧ e z < L) ∧ tv z = lt (e z)) → (wt tc nC ht (vx_val th AR (vx_1 A) e L)).1 lt L t) ∧ (∀ (e : Int → Int) (L : Int) (lt : Int → rf_T) (w : rf_T), 0 ≤ L → (vx_ty tv tc tm AR A).2 w → (∀ z, vx_fv (fun _ _ => True) AR z A → (0 ≤ e z ∧ e z < L) ∧ tv z = lt (e z)) → (wt tc nC ht (vx_val th AR A e L)).2 lt L w)
  | .leaf, _, _, _, _ => ⟨fun _ _ _ _ h => absurd rfl h, fun _ _ _ _ _ h _ => h⟩
  | .inner j q u F X, hm, hok, ⟨k1, k2, k3⟩, ⟨n1, n2, n3, n4⟩ => by
    have hon : ∀ m, vx_on (th m) := fun m => (hg m).1
    have x2 := (wt_sub (tv := tv) (tm := tm) hg (A := X) (fun m h => hm m (Or.inr (Or.inr h))) hok.2 k3 n3).2
    have one : ∀ (e : Int → Int) (L : Int) (lt : Int → rf_T) (t : rf_T), 0 ≤ L → (vx_ty tv tc tm AR (.inner j q () F .leaf)).1 t → (∀ z, vx_fv (fun _ _ => True) AR z (.inner j q () F .leaf) → (0 ≤ e z ∧ e z < L) ∧ tv z = lt (e z)) → (wt tc nC ht (vx_val th AR (.inner j q () F .leaf) e L)).1 lt L t := by
      intro e L lt t L0 ty hf
      have ev := vx_val_in th AR j q () F .leaf e L
      have hF : q.1 ≠ 3 → (∀ m, vx_mt m F → wt_T tc nC ht n ar tm (th m) m) ∧ vx_ok ar AR F ∧ wk_kc nC F ∧ wz_nn F := fun h3 => ⟨fun m h => hm m (Or.inr (Or.inl ⟨h3, h⟩)), wz_ok_F hok h3, k2 h3, n2 h3⟩
      rcases ty with ⟨q0, B, eB, yB⟩ | ⟨q1, et, yF⟩ | ⟨q2, et, yF⟩ | ⟨q3, et, yr⟩
      · obtain ⟨a1, a2, a3, a4⟩ := hF (by omega)
        have sF := n4 q0
        have ih := (wt_sub (tv := tv) (tm := tm) hg (A := F) a1 a2 a3 a4).1 (vx_up e q.2 L) (L + 1) (fun l => if l = L then tv q.2 else lt l) B (vx_sg_1 sF).1 (by omega) (by rw [(vx_sg_1 sF).2]; exact yB) (fun z hz => by
          rw [(vx_sg_1 sF).2] at hz
          unfold vx_up
          by_cases c : z = q.2
          · rw [if_pos c, if_pos rfl, c]
            exact ⟨⟨L0, by omega⟩, rfl⟩
          · obtain ⟨⟨e0, e1⟩, e2⟩ := hf z (Or.inl (Or.inl ⟨q0, c, hz⟩))
            rw [if_neg c, if_neg (by omega)]
            exact ⟨⟨e0, by omega⟩, e2⟩)
        rw [(vx_sg_1 sF).2] at ih
        have on : vx_on (vx_val th AR F (vx_up e q.2 L) (L + 1)) := by
          obtain ⟨j', k', h', G, rfl⟩ := sF
          exact vx_val_one hon _ _ _ _ _ _
        rw [ev, if_pos q0]
        exact Or.inl ⟨rfl, on, tv q.2, B, eB, ih⟩
      · obtain ⟨a1, a2, a3, a4⟩ := hF (by omega)
        have fF : ∀ z, vx_fv (fun _ _ => True) AR z F → (0 ≤ e z ∧ e z < L) ∧ tv z = lt (e z) := fun z hz => hf z (Or.inl (Or.inr (Or.inr ⟨by omega, by omega, Or.inr hz⟩)))
        rw [ev, if_neg (by omega), if_neg (by omega), if_neg (by omega)]
        exact Or.inr (Or.inr (Or.inl ⟨q1, ⟨n1 q1, k1 q1⟩, et, (wt_sub (tv := tv) (tm := tm) hg (A := F) a1 a2 a3 a4).2 e L lt _ L0 yF fF⟩))
      · obtain ⟨a1, a2, a3, a4⟩ := hF (by omega)
        have fF : ∀ z, vx_fv (fun _ _ => True) AR z F → (0 ≤ e z ∧ e z < L) ∧ tv z = lt (e z) := fun z hz => hf z (Or.inl (Or.inr (Or.inr ⟨by omega, by omega, Or.inr hz⟩)))
        have hv := (hf q.2 (Or.inl (Or.inr (Or.inr ⟨by omega, by omega, Or.inl ⟨q2, rfl⟩⟩)))).2
        rw [ev, if_neg (by omega), if_neg (by omega), if_pos q2]
        have w := (wt_sub (tv := tv) (tm := tm) hg (A := F) a1 a2 a3 a4).2 e L lt _ L0 yF fF
        rw [hv] at w
        exact Or.inr (Or.inr (Or.inr ⟨q2, et, w⟩))
      · obtain ⟨w1, w2, w3⟩ := hm q.2 (Or.inl ⟨q3, rfl⟩)
        have hl : ((AR j).length : Int) = ar q.2 := by
          rcases hok.1 with ⟨z, _⟩ | ⟨_, z⟩
          · omega
          · exact z
        have ll : (((AR j).map e).length : Int) = ar q.2 := by
          rw [List.length_map]
          exact hl
        have at_ : ∀ i : Nat, (i : Int) < ar q.2 → ∃ z, (AR j)[i]? = some z ∧ vx_ix ((AR j).map e) L (i : Int) = e z := fun i hi => by
          have hi' : i < (AR j).length := by omega
          refine ⟨_, List.getElem?_eq_getElem hi', ?_⟩
          unfold vx_ix
          rw [if_pos (by omega), Int.toNat_natCast]
          exact wt_gm hi'
        rw [ev, if_neg (by omega), if_pos q3]
        show (wt tc nC ht (vx_sb (vx_re (vx_ix ((AR j).map e) L) (th q.2)) .leaf)).1 lt L t
        rw [vx_sb_leaf (vx_re_on (hon _)), et]
        refine (wt_re (tc := tc) (nC := nC) (ht := ht) (vx_ix ((AR j).map e) L) w1 (Γ := fun v => lt (vx_ix ((AR j).map e) L v)) (Γ' := lt) w2 L0 (fun v hv hlt => ?_) (fun i hi => ?_)).1 _ (w3 _ (fun i hi => ?_))
        · have v0 := (hg q.2).2 v hv
          obtain ⟨z, z1, z2⟩ := at_ v.toNat (by omega)
          rw [Int.toNat_of_nonneg v0] at z2
          rw [z2]
          obtain ⟨⟨h1, h2⟩, _⟩ := hf z (Or.inl (Or.inr (Or.inl ⟨q3, v.toNat, z1, trivial⟩)))
          exact ⟨rfl, h1, h2⟩
        · unfold vx_ix
          rw [if_neg (by omega)]
          omega
        · obtain ⟨z, z1, z2⟩ := at_ i hi
          show lt (vx_ix ((AR j).map e) L (i : Int)) = _
          rw [z2, ← yr i z z1]
          exact (hf z (Or.inl (Or.inr (Or.inl ⟨q3, i, z1, trivial⟩)))).2.symm
    refine ⟨fun e L lt t _ L0 ty hf => one e L lt t L0 ty hf, fun e L lt w L0 ty hf => ?_⟩
    obtain ⟨A', B, eq, y1, y2⟩ := ty
    have w1 := one e L lt A' L0 y1 (fun z hz => hf z (by
      rcases hz with hz | hz
      · exact Or.inl hz
      · exact hz.elim))
    have w2 := x2 e L lt B L0 y2 (fun z hz => hf z (Or.inr hz))
    rw [vx_val_1 hon j q u F X e L]
    obtain ⟨k', h', G, hG⟩ := vx_val_one hon (AR := AR) j q u F e L
    have hG'' : vx_val th AR (.inner j q () F .leaf) e L = rf_n 0 k' h' G .leaf := hG
    rw [hG''] at w1 ⊢
    exact ⟨A', B, eq, w1, w2⟩
/-- under the \ of a typed root -/
theorem wt_un {tc : Int → rf_T} {nC : Int} {ht : Int → List rf_T} {v : rf_N} : ∀ (n : Nat) (x : rf_T) (Γ : Int → rf_T) (L : Int), (rf_args x).length = n → (wt tc nC ht (vq_lm n v)).1 Γ L x → ∃ Γ' : Int → rf_T, (∀ i, i < L → Γ' i = Γ i) ∧ (∀ (i : Nat) T, (rf_args x)[i]? = some T → Γ' (L + (i : Int)) = T) ∧ (wt tc nC ht v).1 Γ' (L + (n : Int)) rf_b
  | 0, .leaf, Γ, L, _, h => ⟨Γ, fun _ _ => rfl, fun i T hT => (by cases hT), by
    rw [show L + ((0 : Nat) : Int) = L by omega]
    exact h⟩
  | 0, .inner _ _ _ _ _, _, _, e, _ => absurd e (Nat.succ_ne_zero _)
  | n + 1, .leaf, _, _, e, _ => absurd e.symm (Nat.succ_ne_zero _)
  | n + 1, .inner z z1 z2 A B, Γ, L, e, h => by
    have e' : (rf_args B).length = n := Nat.succ.inj e
    rcases h with ⟨_, _, a, B', eB, y⟩ | ⟨⟨c, _⟩, _⟩ | ⟨c, _⟩ | ⟨c, _⟩
    · injection eB with _ _ _ h1 h2
      subst h1 h2
      obtain ⟨Γ', g1, g2, g3⟩ := wt_un n B _ (L + 1) e' y
      refine ⟨Γ', fun i hi => (g1 i (by omega)).trans (if_neg (by omega)), fun i T hT => ?_, ?_⟩
      · cases i with
        | zero =>
          have eA : A = T := Option.some.inj hT
          rw [show L + ((0 : Nat) : Int) = L by omega, g1 L (by omega), ← eA]
          exact if_pos rfl
        | succ i =>
          have := g2 i T hT
          rw [show L + ((i + 1 : Nat) : Int) = L + 1 + (i : Int) by omega]
          exact this
      · rw [show L + ((n + 1 : Nat) : Int) = L + 1 + (n : Int) by omega]
        exact g3
    · exact absurd c (show ¬ (0 : Int) = 1 by decide)
    · exact absurd c (show ¬ (0 : Int) = 1 by decide)
    · exact absurd c (show ¬ (0 : Int) = 2 by decide)
/-- what the variables that stand in it are counts alone -/
theorem wt_cg {tc : Int → rf_T} {nC : Int} {ht : Int → List rf_T} {n : Int} {ar : Int → Int} {A : rf_N} {Γ Γ' : Int → rf_T} {L : Int} {t : rf_T} (hok : wz_ok n ar A) (hsc : vx_sc A L) (L0 : 0 ≤ L) (h0 : ∀ v, vx_oc v A → 0 ≤ v) (h : ∀ v, 0 ≤ v → v < L → Γ' v = Γ v) (hA : (wt tc nC ht A).1 Γ L t) : (wt tc nC ht A).1 Γ' L t := by
  have := (wt_re (tc := tc) (nC := nC) (ht := ht) (fun v => v) hok (Γ := Γ) (Γ' := Γ') hsc L0 (fun v hv hl => ⟨h v (h0 v hv) hl, h0 v hv, hl⟩) (fun i _ => rfl)).1 t hA
  rw [vx_re_id hsc (fun _ _ => rfl)] at this
  exact this
end
section
/-! ===== what is written of a side ===== -/
theorem vl_nn_snoc {g : rf_N} : ∀ {f : rf_N}, wz_nn f → wz_nn g → wz_nn (rf_snoc f g)
  | .leaf, _, h => h
  | .inner _ _ _ _ _, ⟨h1, h2, h3, h4⟩, h => ⟨h1, h2, vl_nn_snoc h3 h, h4⟩
section
variable {SN : Int → Int → Prop} {C M : List (Int × qx_T)} {TV : Int → qx_T → Prop} {AR : Nat → List Int}
theorem vl_c1_nn : ∀ {x : qx_T} {W : rf_N} {k h : Int} {f : rf_N} {ρ : List Int}, vl_c1 TV x W k h f ρ → wz_nn f → (k = 1 → 0 ≤ h) → (k = 1 ∨ k = 2) → vx_sg W ∧ wz_nn W := by
  intro x
  induction x with
  | leaf =>
    rintro W k h f ρ ⟨j, e⟩ hf hk hkk
    rw [e]
    exact ⟨⟨j, k, h, f, rfl⟩, hk, fun _ => hf, trivial, fun c => by have c' : k = 0 := c; omega⟩
  | inner z b u x y ihx ihy =>
    intro W k h f ρ hc hf hk hkk
    rcases hc with ⟨rfl, j, e⟩ | ⟨⟨rfl, rfl⟩, j, v, g, W', e, _, h3, h4, h5⟩
    · rw [e]
      exact ⟨⟨j, k, h, f, rfl⟩, hk, fun _ => hf, trivial, fun c => by have c' : k = 0 := c; omega⟩
    · have a1 := ihx h4 (show wz_nn .leaf from trivial) (fun c => absurd c (by decide)) (Or.inr rfl)
      have b1 := ihy h5 (vl_nn_snoc hf a1.2) hk hkk
      rw [e]
      exact ⟨⟨j, 0, v, W', rfl⟩, fun c => absurd c (show ¬ (0 : Int) = 1 by decide), fun _ => b1.2, trivial, fun _ => b1.1⟩
theorem vl_c3_nn : ∀ {x : qx_T} {W : rf_N} {h : Int} {vs : List Int} {ρ : List Int}, vl_c3 TV AR x W h vs ρ → vx_sg W ∧ wz_nn W := by
  have fin : ∀ {j : Nat} {h : Int} {F : rf_N}, vx_sg (rf_n j 3 h F .leaf) ∧ wz_nn (rf_n j 3 h F .leaf) := fun {j h F} => ⟨⟨j, 3, h, F, rfl⟩, fun c => absurd c (show ¬ (3 : Int) = 1 by decide), fun c => absurd rfl c, trivial, fun c => absurd c (show ¬ (3 : Int) = 0 by decide)⟩
  intro x
  induction x with
  | leaf =>
    rintro W h vs ρ ⟨j, F, e, ea⟩
    rw [e]
    exact fin
  | inner z b u x y ihx ihy =>
    intro W h vs ρ hc
    rcases hc with ⟨rfl, j, F, e, ea⟩ | ⟨⟨rfl, rfl⟩, j, v, W', e, _, h5⟩
    · rw [e]
      exact fin
    · have b1 := ihy h5
      rw [e]
      exact ⟨⟨j, 0, v, W', rfl⟩, fun c => absurd c (show ¬ (0 : Int) = 1 by decide), fun _ => b1.2, trivial, fun _ => b1.1⟩
theorem vl_tm_nn : ∀ {n : px_N}, (∀ {W : rf_N} {Γ : List (Int × qx_T)} {ρ : List Int} {x : qx_T}, (vl_tm SN C M TV AR n).1 W Γ ρ x → vx_sg W ∧ wz_nn W) ∧ (∀ {F : rf_N} {Γ : List (Int × qx_T)} {ρ : List Int} {U L : qx_T}, (vl_tm SN C M TV AR n).2 F Γ ρ U L → wz_nn F)
  | .leaf => ⟨fun h => h.elim, fun h => by
    have h1 := h.1
    subst h1
    trivial⟩
  | .inner g q u f n => by
    obtain ⟨f1, f2⟩ := vl_tm_nn (n := f)
    obtain ⟨_, n2⟩ := vl_tm_nn (n := n)
    have one : ∀ {W : rf_N} {Γ : List (Int × qx_T)} {ρ : List Int} {x : qx_T}, (vl_tm SN C M TV AR (.inner g q u f n)).1 W Γ ρ x → vx_sg W ∧ wz_nn W := by
      intro W Γ ρ x h
      rcases h with ⟨_, j, v, F, B, v1, _, v3, _⟩ | ⟨_, k, i, U, h0, w1, w2, w3⟩
      · rw [v1]
        exact ⟨⟨j, 0, v, F, rfl⟩, fun c => absurd c (show ¬ (0 : Int) = 1 by decide), fun _ => (f1 v3).2, trivial, fun _ => (f1 v3).1⟩
      · rcases w3 with ⟨k3, F, r1, r2⟩ | ⟨k3, ls, r1, _, r3, r2⟩
        · refine vl_c1_nn r2 (f2 r1) (fun k1 => ?_) ?_
          · rw [w2.2 (by omega)]
            omega
          · rcases w1 with ⟨z, _⟩ | ⟨z, _⟩ | ⟨z, _⟩
            · exact Or.inr z
            · exact Or.inl z
            · omega
        · exact vl_c3_nn r2
    refine ⟨one, fun {F Γ ρ U L} h => ?_⟩
    obtain ⟨W, X, A, U', ⟨a1, a2⟩, a3, a4, a5⟩ := vl_tm_c.mp h
    have b1 := (one a4).2
    have b2 := n2 a5
    obtain ⟨j, k, h', G, rfl⟩ := a1
    have es : vx_sb (rf_n j k h' G .leaf) X = rf_snoc (rf_n j k h' G .leaf) X := rfl
    rw [a2, es]
    exact vl_nn_snoc b1 b2
end
/-- a TERM of the text under a solution: its value is of its type -/
theorem wy_S_t {b : Nat → Int} {n : Int} {l : List vl_I} {TV : Int → qx_T → Prop} {AR : Nat → List Int} {tl : vw_L} {S : vx_S} {th : Int → rf_N} {ht : Int → List rf_T} {nm : Int → List Int} {p : (List (Int × qx_T) × List (Int × qx_T)) × (px_N × px_N)} {N : px_N} {W : rf_N} {x : qx_T} (hZ : wy_Z b n l TV AR tl S th ht nm) (hp : p ∈ vl_eq l [] []) (hW : (vl_tm (px_SN b n) p.1.1 p.1.2 TV AR N).1 W [] [] x) : (wt (dl_tc (vl_kf l [])) ((vl_kf l []).length : Int) ht (vx_val th AR W (dv_lk []) 0)).1 (fun _ => rf_b) 0 (qx_sh x) ∧ wz_nn W ∧ vx_ok S.2.2.1 AR W ∧ ∀ m, vx_mt m W → 0 ≤ m ∧ m < ((vl_mf l []).length : Int) := by
  obtain ⟨⟨z1, z2, z3⟩, z4, z5, ⟨htv, hck⟩, z6⟩ := hZ trivial
  obtain ⟨⟨W0, B1, rk, hrk⟩, nn, ⟨hS, ho⟩, _, n0, _⟩ := z2 trivial
  obtain ⟨⟨pC, pM⟩, _, _⟩ := vl_eq_in hck (fun _ h => absurd h List.not_mem_nil) (fun _ h => absurd h List.not_mem_nil) p hp
  obtain ⟨tv, htv⟩ := htv
  have hE : vl_E tv (dl_tc (vl_kf l [])) (dl_tm (vl_mf l [])) (dl_ra (vl_mf l [])) p.1.1 p.1.2 TV := ⟨htv, fun i q h => by
    unfold dl_tc
    rw [Int.toNat_natCast, pC i q h]
    rfl, fun i q h => ⟨by
    unfold dl_ra
    rw [Int.toNat_natCast, pM i q h]
    rfl, fun a => by
    unfold dl_tm
    rw [Int.toNat_natCast, pM i q h]
    rfl⟩⟩
  obtain ⟨sg, ty, fv, mt, ok⟩ := (vl_tm_all (P := fun _ _ => True) hE).1 (Γ := []) (ρ := []) ⟨rfl, fun l hl => absurd hl (Nat.not_lt_zero _)⟩ hW
  have mt' : ∀ m, vx_mt m W → 0 ≤ m ∧ m < ((vl_mf l []).length : Int) := fun m hm => by
    obtain ⟨m0, m1⟩ := mt m hm
    have hk : m.toNat < p.1.2.length := by omega
    have := (List.getElem?_eq_some_iff.mp (pM m.toNat _ (List.getElem?_eq_getElem hk))).1
    exact ⟨m0, by omega⟩
  have ok' : vx_ok S.2.2.1 AR W := vx_ok_cg (fun m hm => z3 m (mt' m hm).1 (mt' m hm).2) (fun _ _ => rfl) ok
  have nnW : wz_nn W := (vl_tm_nn.1 hW).2
  have lC : (p.1.1.length : Int) ≤ ((vl_kf l []).length : Int) := by
    by_cases c : p.1.1.length = 0
    · omega
    · have := (List.getElem?_eq_some_iff.mp (pC (p.1.1.length - 1) _ (List.getElem?_eq_getElem (by omega)))).1
      omega
  have kc : wk_kc ((vl_kf l []).length : Int) W := (vl_tm_kc lC).1 hW
  have hT : ∀ m, vx_mt m W → wt_T (dl_tc (vl_kf l [])) ((vl_kf l []).length : Int) ht S.1 S.2.2.1 (dl_tm (vl_mf l [])) (th m) m := fun m hm => by
    obtain ⟨m0, m1⟩ := mt' m hm
    have hk : m.toNat < (vl_mf l []).length := by omega
    have hp' := List.getElem?_eq_getElem hk
    have wr := z6 m.toNat _ hp'
    rw [Int.toNat_of_nonneg m0] at wr
    have ar : S.2.2.1 m = ((rf_args (qx_sh ((vl_mf l [])[m.toNat]).2)).length : Int) := by
      rw [z3 m m0 m1]
      unfold dl_ra
      rw [hp']
      rfl
    have m2 : m < S.1 := by omega
    have okm := (wz_sol hrk W0 B1 hS ho nn hS m m0 m2).1
    have scm := hS.2.1 m m0 m2
    refine ⟨okm, scm, fun Γ hΓ => ?_⟩
    obtain ⟨Γ', _, g2, g3⟩ := wt_un _ _ _ _ rfl wr
    rw [Int.zero_add, ← ar] at g3
    refine wt_cg okm scm (by omega) (fun v hv => (hS.1 m).2 v hv) (fun v v0 v1 => ?_) g3
    have hv : v.toNat < (rf_args (qx_sh ((vl_mf l [])[m.toNat]).2)).length := by omega
    have h1 := g2 v.toNat _ (List.getElem?_eq_getElem hv)
    rw [Int.zero_add, Int.toNat_of_nonneg v0] at h1
    have h2 := hΓ v.toNat (by omega)
    rw [Int.toNat_of_nonneg v0] at h2
    rw [h2, h1]
    unfold dl_tm
    rw [hp']
    show (rf_args (qx_sh ((vl_mf l [])[m.toNat]).2)).getD v.toNat rf_b = _
    rw [List.getD_eq_getElem?_getD, List.getElem?_eq_getElem hv]
    rfl
  have w := (wt_sub (tv := tv) hS.1 hT ok' kc nnW).1 (dv_lk []) 0 (fun _ => rf_b) (qx_sh x) (vx_sg_1 sg).1 (Int.le_refl _) (by rw [(vx_sg_1 sg).2]; exact ty) (fun z hz => by
    rw [(vx_sg_1 sg).2] at hz
    exact absurd (fv z hz) List.not_mem_nil)
  rw [(vx_sg_1 sg).2] at w
  exact ⟨w, nnW, ok', mt'⟩
/-- o is what is written of the side si of the equation k -/
def wy_Os (b : Nat → Int) (n : Int) (l : List vl_I) (k si : Int) (o : List Int) : Prop := True → ∃ (TV : Int → qx_T → Prop) (AR : Nat → List Int) (tl : vw_L) (S : vx_S) (th : Int → rf_N) (ht : Int → List rf_T) (nm : Int → List Int) (p : (List (Int × qx_T) × List (Int × qx_T)) × (px_N × px_N)) (W : rf_N) (x : qx_T), wy_Z b n l TV AR tl S th ht nm ∧ (vl_eq l [] [])[k.toNat]? = some p ∧ (vl_tm (px_SN b n) p.1.1 p.1.2 TV AR (if si = 0 then p.2.1 else p.2.2)).1 W [] [] x ∧ o = ((we_W (wk_E nm ht) (vx_val th AR W (dv_lk []) 0)).1 0 (wz_al th (vl_mf l []).length, [])).2
theorem wy_Os_fun {b : Nat → Int} {n : Int} {l : List vl_I} {k si : Int} {o o' : List Int} (h : wy_Os b n l k si o) (h' : wy_Os b n l k si o') : o = o' := by
  obtain ⟨TV, AR, tl, S, th, ht, nm, p, W, x, hZ, hp, hW, eo⟩ := h trivial
  obtain ⟨TV', AR', tl', S', th', ht', nm', p', W', x', hZ', hp', hW', eo'⟩ := h' trivial
  rw [hp] at hp'
  have ep : p = p' := Option.some.inj hp'
  subst ep
  obtain ⟨t1, nnW, okW, mtW⟩ := wy_S_t hZ (List.mem_of_getElem? hp) hW
  obtain ⟨t2, _⟩ := wy_S_t hZ' (List.mem_of_getElem? hp) hW'
  obtain ⟨⟨a1, a2, a3⟩, a4, a5, _⟩ := hZ trivial
  obtain ⟨⟨b1, b2, b3⟩, b4, b5, _⟩ := hZ' trivial
  have hon' : ∀ m, vx_on (th' m) := fun m => ((b2 trivial).2.2.1.1.1 m).1
  have hon : ∀ m, vx_on (th m) := fun m => ((a2 trivial).2.2.1.1.1 m).1
  obtain ⟨ex, ev⟩ := (vl_tm_eq (th := th') hon' (fun h1 h2 => px_pv_fun.2 h1 h2)).1 (Γ := []) (ρ := []) (ρ' := []) rfl hW hW'
  have ev' := ev (dv_lk []) (dv_lk []) 0 ⟨rfl, fun _ h => absurd h (Nat.not_lt_zero _)⟩
  rw [← ev', ← ex] at t2
  rw [← ev'] at eo'
  have b2' := wz_MG_cg (Q' := dv_Q AR tl) (fun th hg => ⟨vl_tx_Q (fun m => (hg m).1) b1 a1, vl_tx_Q (fun m => (hg m).1) a1 b1⟩) b2
  obtain ⟨π, π', I, J, r1, r2⟩ := wz_both2 a2 b2' (fun u u0 u1 => (b3 u u0 u1).trans (a3 u u0 u1).symm)
  have hab := wz_al_rl (n := (vl_mf l []).length) r1
  obtain ⟨o1, e1, e2⟩ := (wt_eq (nm := nm) (nm' := nm') (ht := ht) (ht' := ht') (tc := dl_tc (vl_kf l [])) (nC := ((vl_kf l []).length : Int)) hab a4 b4 (fun x x0 x1 => (a5 x x0 x1).trans (b5 x x0 x1).symm) (r2 W AR (dv_lk []) 0 nnW okW mtW) (fun y hy => by
    obtain ⟨m, m1, m2⟩ := we_val_oc hon nnW hy
    exact wz_al_mem.mpr ⟨m, mtW m m1, m2⟩)).1 (fun _ => rf_b) 0 (qx_sh x) t1 t2 []
  have e1' : (we_W (wk_E nm ht) (vx_val th AR W (dv_lk []) 0)).1 0 (wz_al th (vl_mf l []).length, []) = (wz_al th (vl_mf l []).length, o1) := e1
  have e2' : (we_W (wk_E nm' ht') (vx_val th' AR W (dv_lk []) 0)).1 0 (wz_al th' (vl_mf l []).length, []) = (wz_al th' (vl_mf l []).length, o1) := e2
  rw [eo, eo', e1', e2']
end
