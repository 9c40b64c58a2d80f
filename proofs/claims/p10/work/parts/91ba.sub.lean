/-! ===== typed values: variables renamed; values of typed trees under typed values ===== -/
theorem wt_hs_oc : ∀ {F : rf_N}, wz_vr F → ∀ y ∈ dz_hs F, vx_oc y F
  | .leaf, _, y, hy => absurd hy List.not_mem_nil
  | .inner j q u F X, h, y, hy => by
    have h1 : q.1 = 2 := h.1.1
    rcases List.mem_cons.mp hy with rfl | hy
    · exact Or.inl ⟨h1, rfl⟩
    · exact Or.inr (Or.inr (wt_hs_oc h.2 y hy))
theorem wt_re {tc : Int → rf_T} {nC : Int} {ht : Int → List rf_T} {n : Int} {ar : Int → Int} (ρ : Int → Int) : ∀ {A : rf_N}, wz_ok n ar A → ∀ {Γ Γ' : Int → rf_T} {La Lb : Int}, vx_sc A La → 0 ≤ Lb → (∀ v, vx_oc v A → v < La → Γ' (ρ v) = Γ v ∧ 0 ≤ ρ v ∧ ρ v < Lb) → (∀ i : Int, 0 ≤ i → ρ (La + i) = Lb + i) → (∀ t, (wt tc nC ht A).1 Γ La t → (wt tc nC ht (vx_re ρ A)).1 Γ' Lb t) ∧ (∀ t, (wt tc nC ht A).2 Γ La t → (wt tc nC ht (vx_re ρ A)).2 Γ' Lb t)
  | .leaf, _, _, _, _, _, _, _, _, _ => ⟨fun _ h => h.elim, fun _ h => h⟩
  | .inner j q u F X, hok, Γ, Γ', La, Lb, hsc, L0, hρ, hb => by
    obtain ⟨o1, o2, o3⟩ := wz_ok_in.mp hok
    obtain ⟨s0, s1, s2⟩ := hsc
    have hX := (wt_re (tc := tc) (nC := nC) (ht := ht) ρ o2 s2 L0 (fun v hv hl => hρ v (Or.inr (Or.inr hv)) hl) hb).2
    have one : ∀ t, (wt tc nC ht (.inner j q u F X)).1 Γ La t → (wt tc nC ht (vx_re ρ (.inner j q u F X))).1 Γ' Lb t := by
      intro t ty
      rcases ty with ⟨q0, on, a, B, e, y⟩ | ⟨⟨q1, q2⟩, e, y⟩ | ⟨q1, c, e, y⟩ | ⟨q2, e, y⟩
      · have oF : wz_ok n ar F := by
          rw [if_neg (by omega)] at o1
          exact o1
        have sF : vx_sc F (La + 1) := by
          rcases s1 with ⟨_, _, z⟩ | ⟨z, _⟩
          · exact z
          · exfalso
            rcases z with z | z
            · omega
            · omega
        have ih := (wt_re (tc := tc) (nC := nC) (ht := ht) ρ oF (Γ := fun l => if l = La then a else Γ l) (Γ' := fun l => if l = Lb then a else Γ' l) (La := La + 1) (Lb := Lb + 1) sF (by omega) (fun v hv hl => by
          by_cases c : v = La
          · have e1 := hb 0 (Int.le_refl _)
            rw [Int.add_zero, Int.add_zero] at e1
            rw [c, e1, if_pos rfl, if_pos rfl]
            exact ⟨rfl, L0, by omega⟩
          · obtain ⟨h1, h2, h3⟩ := hρ v (Or.inr (Or.inl hv)) (by omega)
            rw [if_neg (by omega), if_neg c]
            exact ⟨h1, h2, by omega⟩) (fun i hi => by
          have := hb (1 + i) (by omega)
          rw [show La + 1 + i = La + (1 + i) by omega, this]
          omega)).1 B y
        exact Or.inl ⟨q0, vx_re_on on, a, B, e, ih⟩
      · have c : q.1 = 1 ∧ q.2 < 0 := ⟨q1, q2⟩
        rw [if_pos c] at o1
        have sF : vx_sc F La := by
          rcases s1 with ⟨z, _⟩ | ⟨_, z⟩
          · omega
          · exact z
        have eh : (if q.1 = 2 then ρ q.2 else q.2) = q.2 := if_neg (by omega)
        refine Or.inr (Or.inl ⟨⟨q1, ?_⟩, e, fun i y' hy => ?_⟩)
        · show (if q.1 = 2 then ρ q.2 else q.2) < 0
          rw [eh]
          exact q2
        · show (ht (if q.1 = 2 then ρ q.2 else q.2)).getD i .leaf = Γ' y' ∧ 0 ≤ y'
          rw [eh]
          rw [wz_hs_re ρ o1.1, List.getElem?_map] at hy
          cases hz : (dz_hs F)[i]? with
          | none =>
            rw [hz] at hy
            cases hy
          | some z =>
            rw [hz] at hy
            have ey : ρ z = y' := Option.some.inj hy
            have hm := List.mem_of_getElem? hz
            obtain ⟨h1, h2, _⟩ := hρ z (Or.inr (Or.inl (wt_hs_oc o1.1 z hm))) (wz_vr_sc o1.1 sF z hm).2
            rw [← ey, h1]
            exact ⟨(y i z hz).1, h2⟩
      · have oF : wz_ok n ar F := by
          rw [if_neg (by omega)] at o1
          exact o1
        have sF : vx_sc F La := by
          rcases s1 with ⟨z, _⟩ | ⟨_, z⟩
          · omega
          · exact z
        have eh : (if q.1 = 2 then ρ q.2 else q.2) = q.2 := if_neg (by omega)
        have ih := (wt_re (tc := tc) (nC := nC) (ht := ht) ρ oF sF L0 (fun v hv hl => hρ v (Or.inr (Or.inl hv)) hl) hb).2 _ y
        refine Or.inr (Or.inr (Or.inl ⟨q1, ?_, e, ?_⟩))
        · show 0 ≤ (if q.1 = 2 then ρ q.2 else q.2) ∧ (if q.1 = 2 then ρ q.2 else q.2) < nC
          rw [eh]
          exact c
        · show (wt tc nC ht (vx_re ρ F)).2 Γ' Lb (tc (if q.1 = 2 then ρ q.2 else q.2))
          rw [eh]
          exact ih
      · have oF : wz_ok n ar F := by
          rw [if_neg (by omega)] at o1
          exact o1
        obtain ⟨⟨v0, v1⟩, sF⟩ : (0 ≤ q.2 ∧ q.2 < La) ∧ vx_sc F La := by
          rcases s1 with ⟨z, _⟩ | ⟨z1, z⟩
          · omega
          · refine ⟨?_, z⟩
            rcases z1 with z1 | z1
            · omega
            · exact z1.2
        have eh : (if q.1 = 2 then ρ q.2 else q.2) = ρ q.2 := if_pos q2
        have ih := (wt_re (tc := tc) (nC := nC) (ht := ht) ρ oF sF L0 (fun v hv hl => hρ v (Or.inr (Or.inl hv)) hl) hb).2 _ y
        refine Or.inr (Or.inr (Or.inr ⟨q2, e, ?_⟩))
        show (wt tc nC ht (vx_re ρ F)).2 Γ' Lb (Γ' (if q.1 = 2 then ρ q.2 else q.2))
        rw [eh, (hρ q.2 (Or.inl ⟨q2, rfl⟩) v1).1]
        exact ih
    refine ⟨one, fun t ty => ?_⟩
    obtain ⟨A, B, e, y1, y2⟩ := wt_2.mp ty
    exact ⟨A, B, e, one A y1, hX B y2⟩
/-- the values of the unknowns, each of its type -/
def wt_T (tc : Int → rf_T) (nC : Int) (ht : Int → List rf_T) (n : Int) (ar : Int → Int) (tm : Int → Int → rf_T) (v : rf_N) (m : Int) : Prop := wz_ok n ar v ∧ vx_sc v (ar m) ∧ ∀ Γ : Int → rf_T, (∀ i : Nat, (i : Int) < ar m → Γ (i : Int) = tm m (i : Int)) → (wt tc nC ht v).1 Γ (ar m) rf_b
theorem wt_sub {tv tc : Int → rf_T} {tm : Int → Int → rf_T} {nC : Int} {ht : Int → List rf_T} {n : Int} {ar : Int → Int} {th : Int → rf_N} {AR : Nat → List Int} (hg : vx_gd th) : ∀ {A : rf_N}, (∀ m, vx_mt m A → wt_T tc nC ht n ar tm (th m) m) → vx_ok ar AR A → wk_kc nC A → wz_nn A → (∀ (e : Int → Int) (L : Int) (lt : Int → rf_T) (t : rf_T), A ≠ .leaf → 0 ≤ L → (vx_ty tv tc tm AR (vx_1 A)).1 t → (∀ z, vx_fv (fun _ _ => True) AR z (vx_1 A) → (0 ≤ e z ∧ e z < L) ∧ tv z = lt (e z)) → (wt tc nC ht (vx_val th AR (vx_1 A) e L)).1 lt L t) ∧ (∀ (e : Int → Int) (L : Int) (lt : Int → rf_T) (w : rf_T), 0 ≤ L → (vx_ty tv tc tm AR A).2 w → (∀ z, vx_fv (fun _ _ => True) AR z A → (0 ≤ e z ∧ e z < L) ∧ tv z = lt (e z)) → (wt tc nC ht (vx_val th AR A e L)).2 lt L w)
  | .leaf, _, _, _, _ => ⟨fun _ _ _ _ h => absurd rfl h, fun _ _ _ _ _ h _ => h⟩
  | .inner j q u F X, hm, hok, ⟨k1, k2, k3⟩, ⟨n1, n2, n3, n4⟩ => by
    have hon : ∀ m, vx_on (th m) := fun m => (hg m).1
    have x2 := (wt_sub (tv := tv) (tm := tm) hg (A := X) (fun m h => hm m (Or.inr (Or.inr h))) hok.2 k3 n3).2
    have one : ∀ (e : Int → Int) (L : Int) (lt : Int → rf_T) (t : rf_T), 0 ≤ L → (vx_ty tv tc tm AR (.inner j q () F .leaf)).1 t → (∀ z, vx_fv (fun _ _ => True) AR z (.inner j q () F .leaf) → (0 ≤ e z ∧ e z < L) ∧ tv z = lt (e z)) → (wt tc nC ht (vx_val th AR (.inner j q () F .leaf) e L)).1 lt L t := by
      intro e L lt t L0 ty hf
      have ev := vx_val_in th AR j q () F .leaf e L
      have hF : q.1 ≠ 3 → (∀ m, vx_mt m F → wt_T tc nC ht n ar tm (th m) m) ∧ vx_ok ar AR F ∧ wk_kc nC F ∧ wz_nn F := fun h3 => ⟨fun m h => hm m (Or.inr (Or.inl ⟨h3, h⟩)), wz_ok_F hok h3, k2 h3, n2 h3⟩
      rcases ty with ⟨q0, B, eB, yB⟩ | ⟨q1, et, yF⟩ | ⟨q2, et, yF⟩ | ⟨q3, et, yr⟩
      · obtain ⟨a1, a2, a3, a4⟩ := hF (by omega)
        have sF := n4 q0
        have ih := (wt_sub (tv := tv) (tm := tm) hg (A := F) a1 a2 a3 a4).1 (vx_up e q.2 L) (L + 1) (fun l => if l = L then tv q.2 else lt l) B (vx_sg_1 sF).1 (by omega) (by rw [(vx_sg_1 sF).2]; exact yB) (fun z hz => by
          rw [(vx_sg_1 sF).2] at hz
          unfold vx_up
          by_cases c : z = q.2
          · rw [if_pos c, if_pos rfl, c]
            exact ⟨⟨L0, by omega⟩, rfl⟩
          · obtain ⟨⟨e0, e1⟩, e2⟩ := hf z (Or.inl (Or.inl ⟨q0, c, hz⟩))
            rw [if_neg c, if_neg (by omega)]
            exact ⟨⟨e0, by omega⟩, e2⟩)
        rw [(vx_sg_1 sF).2] at ih
        have on : vx_on (vx_val th AR F (vx_up e q.2 L) (L + 1)) := by
          obtain ⟨j', k', h', G, rfl⟩ := sF
          exact vx_val_one hon _ _ _ _ _ _
        rw [ev, if_pos q0]
        exact Or.inl ⟨rfl, on, tv q.2, B, eB, ih⟩
      · obtain ⟨a1, a2, a3, a4⟩ := hF (by omega)
        have fF : ∀ z, vx_fv (fun _ _ => True) AR z F → (0 ≤ e z ∧ e z < L) ∧ tv z = lt (e z) := fun z hz => hf z (Or.inl (Or.inr (Or.inr ⟨by omega, by omega, Or.inr hz⟩)))
        rw [ev, if_neg (by omega), if_neg (by omega), if_neg (by omega)]
        exact Or.inr (Or.inr (Or.inl ⟨q1, ⟨n1 q1, k1 q1⟩, et, (wt_sub (tv := tv) (tm := tm) hg (A := F) a1 a2 a3 a4).2 e L lt _ L0 yF fF⟩))
      · obtain ⟨a1, a2, a3, a4⟩ := hF (by omega)
        have fF : ∀ z, vx_fv (fun _ _ => True) AR z F → (0 ≤ e z ∧ e z < L) ∧ tv z = lt (e z) := fun z hz => hf z (Or.inl (Or.inr (Or.inr ⟨by omega, by omega, Or.inr hz⟩)))
        have hv := (hf q.2 (Or.inl (Or.inr (Or.inr ⟨by omega, by omega, Or.inl ⟨q2, rfl⟩⟩)))).2
        rw [ev, if_neg (by omega), if_neg (by omega), if_pos q2]
        have w := (wt_sub (tv := tv) (tm := tm) hg (A := F) a1 a2 a3 a4).2 e L lt _ L0 yF fF
        rw [hv] at w
        exact Or.inr (Or.inr (Or.inr ⟨q2, et, w⟩))
      · obtain ⟨w1, w2, w3⟩ := hm q.2 (Or.inl ⟨q3, rfl⟩)
        have hl : ((AR j).length : Int) = ar q.2 := by
          rcases hok.1 with ⟨z, _⟩ | ⟨_, z⟩
          · omega
          · exact z
        have ll : (((AR j).map e).length : Int) = ar q.2 := by
          rw [List.length_map]
          exact hl
        have at_ : ∀ i : Nat, (i : Int) < ar q.2 → ∃ z, (AR j)[i]? = some z ∧ vx_ix ((AR j).map e) L (i : Int) = e z := fun i hi => by
          have hi' : i < (AR j).length := by omega
          refine ⟨_, List.getElem?_eq_getElem hi', ?_⟩
          unfold vx_ix
          rw [if_pos (by omega), Int.toNat_natCast]
          exact wt_gm hi'
        rw [ev, if_neg (by omega), if_pos q3]
        show (wt tc nC ht (vx_sb (vx_re (vx_ix ((AR j).map e) L) (th q.2)) .leaf)).1 lt L t
        rw [vx_sb_leaf (vx_re_on (hon _)), et]
        refine (wt_re (tc := tc) (nC := nC) (ht := ht) (vx_ix ((AR j).map e) L) w1 (Γ := fun v => lt (vx_ix ((AR j).map e) L v)) (Γ' := lt) w2 L0 (fun v hv hlt => ?_) (fun i hi => ?_)).1 _ (w3 _ (fun i hi => ?_))
        · have v0 := (hg q.2).2 v hv
          obtain ⟨z, z1, z2⟩ := at_ v.toNat (by omega)
          rw [Int.toNat_of_nonneg v0] at z2
          rw [z2]
          obtain ⟨⟨h1, h2⟩, _⟩ := hf z (Or.inl (Or.inr (Or.inl ⟨q3, v.toNat, z1, trivial⟩)))
          exact ⟨rfl, h1, h2⟩
        · unfold vx_ix
          rw [if_neg (by omega)]
          omega
        · obtain ⟨z, z1, z2⟩ := at_ i hi
          show lt (vx_ix ((AR j).map e) L (i : Int)) = _
          rw [z2, ← yr i z z1]
          exact (hf z (Or.inl (Or.inr (Or.inl ⟨q3, i, z1, trivial⟩)))).2.symm
    refine ⟨fun e L lt t _ L0 ty hf => one e L lt t L0 ty hf, fun e L lt w L0 ty hf => ?_⟩
    obtain ⟨A', B, eq, y1, y2⟩ := ty
    have w1 := one e L lt A' L0 y1 (fun z hz => hf z (by
      rcases hz with hz | hz
      · exact Or.inl hz
      · exact hz.elim))
    have w2 := x2 e L lt B L0 y2 (fun z hz => hf z (Or.inr hz))
    rw [vx_val_1 hon j q u F X e L]
    obtain ⟨k', h', G, hG⟩ := vx_val_one hon (AR := AR) j q u F e L
    have hG'' : vx_val th AR (.inner j q () F .leaf) e L = rf_n 0 k' h' G .leaf := hG
    rw [hG''] at w1 ⊢
    exact ⟨A', B, eq, w1, w2⟩
/-- under the \ of a typed root -/
theorem wt_un {tc : Int → rf_T} {nC : Int} {ht : Int → List rf_T} {v : rf_N} : ∀ (n : Nat) (x : rf_T) (Γ : Int → rf_T) (L : Int), (rf_args x).length = n → (wt tc nC ht (vq_lm n v)).1 Γ L x → ∃ Γ' : Int → rf_T, (∀ i, i < L → Γ' i = Γ i) ∧ (∀ (i : Nat) T, (rf_args x)[i]? = some T → Γ' (L + (i : Int)) = T) ∧ (wt tc nC ht v).1 Γ' (L + (n : Int)) rf_b
  | 0, .leaf, Γ, L, _, h => ⟨Γ, fun _ _ => rfl, fun i T hT => (by cases hT), by
    rw [show L + ((0 : Nat) : Int) = L by omega]
    exact h⟩
  | 0, .inner _ _ _ _ _, _, _, e, _ => absurd e (Nat.succ_ne_zero _)
  | n + 1, .leaf, _, _, e, _ => absurd e.symm (Nat.succ_ne_zero _)
  | n + 1, .inner z z1 z2 A B, Γ, L, e, h => by
    have e' : (rf_args B).length = n := Nat.succ.inj e
    rcases h with ⟨_, _, a, B', eB, y⟩ | ⟨⟨c, _⟩, _⟩ | ⟨c, _⟩ | ⟨c, _⟩
    · injection eB with _ _ _ h1 h2
      subst h1 h2
      obtain ⟨Γ', g1, g2, g3⟩ := wt_un n B _ (L + 1) e' y
      refine ⟨Γ', fun i hi => (g1 i (by omega)).trans (if_neg (by omega)), fun i T hT => ?_, ?_⟩
      · cases i with
        | zero =>
          have eA : A = T := Option.some.inj hT
          rw [show L + ((0 : Nat) : Int) = L by omega, g1 L (by omega), ← eA]
          exact if_pos rfl
        | succ i =>
          have := g2 i T hT
          rw [show L + ((i + 1 : Nat) : Int) = L + 1 + (i : Int) by omega]
          exact this
      · rw [show L + ((n + 1 : Nat) : Int) = L + 1 + (n : Int) by omega]
        exact g3
    · exact absurd c (show ¬ (0 : Int) = 1 by decide)
    · exact absurd c (show ¬ (0 : Int) = 1 by decide)
    · exact absurd c (show ¬ (0 : Int) = 2 by decide)
/-- what the variables that stand in it are counts alone -/
theorem wt_cg {tc : Int → rf_T} {nC : Int} {ht : Int → List rf_T} {n : Int} {ar : Int → Int} {A : rf_N} {Γ Γ' : Int → rf_T} {L : Int} {t : rf_T} (hok : wz_ok n ar A) (hsc : vx_sc A L) (L0 : 0 ≤ L) (h0 : ∀ v, vx_oc v A → 0 ≤ v) (h : ∀ v, 0 ≤ v → v < L → Γ' v = Γ v) (hA : (wt tc nC ht A).1 Γ L t) : (wt tc nC ht A).1 Γ' L t := by
  have := (wt_re (tc := tc) (nC := nC) (ht := ht) (fun v => v) hok (Γ := Γ) (Γ' := Γ') hsc L0 (fun v hv hl => ⟨h v (h0 v hv) hl, h0 v hv, hl⟩) (fun i _ => rfl)).1 t hA
  rw [vx_re_id hsc (fun _ _ => rfl)] at this
  exact this
