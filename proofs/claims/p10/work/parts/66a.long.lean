/-! ===== long forms: the trees that both programs make of a TERM ===== -/
def vl_id (ρ : List Int) (l : Nat) : Int := (ρ[ρ.length - 1 - l]?).getD (-1)
theorem vl_id_cons {w : Int} {ρ : List Int} {l : Nat} (h : l < ρ.length) : vl_id (w :: ρ) l = vl_id ρ l := by
  unfold vl_id
  rw [List.length_cons, show ρ.length + 1 - 1 - l = (ρ.length - 1 - l) + 1 by omega, List.getElem?_cons_succ]
theorem vl_id_top {w : Int} {ρ : List Int} : vl_id (w :: ρ) ρ.length = w := by
  unfold vl_id
  rw [List.length_cons, show ρ.length + 1 - 1 - ρ.length = 0 by omega]
  rfl
theorem vl_id_mem {ρ : List Int} {l : Nat} (h : l < ρ.length) : vl_id ρ l ∈ ρ := by
  unfold vl_id
  rw [List.getElem?_eq_getElem (by omega)]
  exact List.getElem_mem _
/-- the type of what is bound under l others -/
def vl_tl (Γ : List (Int × qx_T)) (l : Nat) : qx_T := ((Γ[Γ.length - 1 - l]?).map (fun q => q.2)).getD .leaf
/-- a head (k, h) with ARGs f that lacks those of the type x; ρ: what is bound around, TV: types of variables -/
def vl_c1 (TV : Int → qx_T → Prop) : qx_T → rf_N → Int → Int → rf_N → List Int → Prop
  | .leaf, W, k, h, f, _ => ∃ j, W = rf_n j k h f .leaf
  | .inner n b _ x y, W, k, h, f, ρ => (b = true ∧ ∃ j, W = rf_n j k h f .leaf) ∨ ((b = false ∧ n = 0) ∧ ∃ (j : Nat) (v : Int) (g W' : rf_N), W = rf_n j 0 v W' .leaf ∧ (v ∉ ρ ∧ 0 ≤ v ∧ TV v x) ∧ vx_sg g ∧ vl_c1 TV x g 2 v .leaf (v :: ρ) ∧ vl_c1 TV y W' k h (rf_snoc f g) (v :: ρ))
/-- a call of the unknown h with the variables vs -/
def vl_c3 (TV : Int → qx_T → Prop) (AR : Nat → List Int) : qx_T → rf_N → Int → List Int → List Int → Prop
  | .leaf, W, h, vs, _ => ∃ j F, W = rf_n j 3 h F .leaf ∧ AR j = vs
  | .inner n b _ x y, W, h, vs, ρ => (b = true ∧ ∃ j F, W = rf_n j 3 h F .leaf ∧ AR j = vs) ∨ ((b = false ∧ n = 0) ∧ ∃ (j : Nat) (v : Int) (W' : rf_N), W = rf_n j 0 v W' .leaf ∧ (v ∉ ρ ∧ 0 ≤ v ∧ TV v x) ∧ vl_c3 TV AR y W' h (vs ++ [v]) (v :: ρ))
/-- a TERM of the type x; a row of ARGs, from the type U to L -/
def vl_tm (SN : Int → Int → Prop) (C M : List (Int × qx_T)) (TV : Int → qx_T → Prop) (AR : Nat → List Int) : px_N → (rf_N → List (Int × qx_T) → List Int → qx_T → Prop) × (rf_N → List (Int × qx_T) → List Int → qx_T → qx_T → Prop)
  | .leaf => (fun _ _ _ _ => False, fun F _ _ U L => F = .leaf ∧ U = L)
  | .inner g q _ f n => (fun W Γ ρ x => (g = 0 ∧ ∃ (j : Nat) (v : Int) (F : rf_N) (B : qx_T), W = rf_n j 0 v F .leaf ∧ (v ∉ ρ ∧ 0 ≤ v ∧ TV v q.2 ∧ qx_at q.2 ≤ 5) ∧ (vl_tm SN C M TV AR f).1 F (q :: Γ) (v :: ρ) B ∧ x = qx_a q.2 B) ∨ (g ≠ 0 ∧ ∃ (k : Int) (i : Nat) (U : qx_T) (h : Int), px_hd SN C M Γ q.1 k i U ∧ ((k = 2 → h = vl_id ρ i) ∧ (k ≠ 2 → h = (i : Int))) ∧ ((k ≠ 3 ∧ ∃ F, (vl_tm SN C M TV AR f).2 F Γ ρ U x ∧ vl_c1 TV x W k h F ρ) ∨ (k = 3 ∧ ∃ ls, (px_pv SN f).2 Γ ls ∧ (∀ l ∈ ls, l < Γ.length) ∧ U = dz_as (ls.map (vl_tl Γ)) x ∧ vl_c3 TV AR x W h (ls.map (vl_id ρ)) ρ))), fun F Γ ρ U L => ∃ (W X : rf_N) (A U' : qx_T), (vx_sg W ∧ F = vx_sb W X) ∧ U = qx_a A U' ∧ ((g = 0 ∧ ∃ (j : Nat) (v : Int) (F : rf_N) (B : qx_T), W = rf_n j 0 v F .leaf ∧ (v ∉ ρ ∧ 0 ≤ v ∧ TV v q.2 ∧ qx_at q.2 ≤ 5) ∧ (vl_tm SN C M TV AR f).1 F (q :: Γ) (v :: ρ) B ∧ A = qx_a q.2 B) ∨ (g ≠ 0 ∧ ∃ (k : Int) (i : Nat) (U : qx_T) (h : Int), px_hd SN C M Γ q.1 k i U ∧ ((k = 2 → h = vl_id ρ i) ∧ (k ≠ 2 → h = (i : Int))) ∧ ((k ≠ 3 ∧ ∃ F, (vl_tm SN C M TV AR f).2 F Γ ρ U A ∧ vl_c1 TV A W k h F ρ) ∨ (k = 3 ∧ ∃ ls, (px_pv SN f).2 Γ ls ∧ (∀ l ∈ ls, l < Γ.length) ∧ U = dz_as (ls.map (vl_tl Γ)) A ∧ vl_c3 TV AR A W h (ls.map (vl_id ρ)) ρ)))) ∧ (vl_tm SN C M TV AR n).2 X Γ ρ U' L)
theorem vl_tm_c {SN : Int → Int → Prop} {C M : List (Int × qx_T)} {TV : Int → qx_T → Prop} {AR : Nat → List Int} {g : Nat} {q : Int × qx_T} {u : Unit} {f n : px_N} {F : rf_N} {Γ : List (Int × qx_T)} {ρ : List Int} {U L : qx_T} : (vl_tm SN C M TV AR (.inner g q u f n)).2 F Γ ρ U L ↔ ∃ (W X : rf_N) (A U' : qx_T), (vx_sg W ∧ F = vx_sb W X) ∧ U = qx_a A U' ∧ (vl_tm SN C M TV AR (.inner g q u f n)).1 W Γ ρ A ∧ (vl_tm SN C M TV AR n).2 X Γ ρ U' L := Iff.rfl
/-! ===== two trees of one TERM have the same values ===== -/
def vl_ag (ρ ρ' : List Int) (e e' : Int → Int) : Prop := ρ.length = ρ'.length ∧ ∀ l, l < ρ.length → e (vl_id ρ l) = e' (vl_id ρ' l)
theorem vl_ag_dn {ρ ρ' : List Int} {e e' : Int → Int} {v v' : Int} (h : vl_ag (v :: ρ) (v' :: ρ') e e') : vl_ag ρ ρ' e e' := by
  obtain ⟨h1, h2⟩ := h
  rw [List.length_cons, List.length_cons] at h1
  refine ⟨by omega, fun l hl => ?_⟩
  have := h2 l (by rw [List.length_cons]; omega)
  rwa [vl_id_cons hl, vl_id_cons (by omega)] at this
theorem vl_ag_up {ρ ρ' : List Int} {e e' : Int → Int} {v v' L : Int} (hv : v ∉ ρ) (hv' : v' ∉ ρ') (h : vl_ag ρ ρ' e e') : vl_ag (v :: ρ) (v' :: ρ') (vx_up e v L) (vx_up e' v' L) := by
  obtain ⟨h1, h2⟩ := h
  refine ⟨by rw [List.length_cons, List.length_cons, h1], fun l hl => ?_⟩
  rw [List.length_cons] at hl
  by_cases q : l < ρ.length
  · rw [vl_id_cons q, vl_id_cons (by omega)]
    unfold vx_up
    rw [if_neg (fun e => hv (by rw [← e]; exact vl_id_mem q)), if_neg (fun e => hv' (by rw [← e]; exact vl_id_mem (by omega)))]
    exact h2 l q
  · have e1 : l = ρ.length := by omega
    have e2 : vl_id (v' :: ρ') l = v' := by
      rw [e1, h1]
      exact vl_id_top
    rw [e2, e1, vl_id_top]
    unfold vx_up
    rw [if_pos rfl, if_pos rfl]
theorem vl_ag_top {ρ ρ' : List Int} {e e' : Int → Int} {v v' : Int} (h : vl_ag (v :: ρ) (v' :: ρ') e e') : e v = e' v' := by
  obtain ⟨h1, h2⟩ := h
  rw [List.length_cons, List.length_cons] at h1
  have := h2 ρ.length (by rw [List.length_cons]; omega)
  rw [vl_id_top, show ρ.length = ρ'.length by omega, vl_id_top] at this
  exact this
theorem vx_sb_snoc {A X Y : rf_N} (h : vx_on A) : vx_sb A (rf_snoc X Y) = rf_snoc (vx_sb A X) Y := by
  obtain ⟨k, h, F, rfl⟩ := h
  rfl
theorem vx_val_snoc {th : Int → rf_N} {AR : Nat → List Int} (hg : ∀ m, vx_on (th m)) {g : rf_N} {e : Int → Int} {L : Int} : ∀ {f : rf_N}, vx_val th AR (rf_snoc f g) e L = rf_snoc (vx_val th AR f e L) (vx_val th AR g e L)
  | .leaf => rfl
  | .inner j q u F X => by
    have ih := vx_val_snoc (AR := AR) hg (g := g) (e := e) (L := L) (f := X)
    show vx_val th AR (.inner j q () F (rf_snoc X g)) e L = _
    rw [vx_val_1 hg, ih, vx_val_1 hg j q u F X, vx_sb_snoc (vx_val_one hg j q u F e L)]
theorem vl_lam {th : Int → rf_N} {AR AR' : Nat → List Int} {j j' : Nat} {x y L : Int} {F F' : rf_N} {e d : Int → Int} (h : vx_val th AR F (vx_up e x L) (L + 1) = vx_val th AR' F' (vx_up d y L) (L + 1)) : vx_val th AR (rf_n j 0 x F .leaf) e L = vx_val th AR' (rf_n j' 0 y F' .leaf) d L := by
  rw [vx_val_in, vx_val_in, if_pos rfl, if_pos rfl]
  dsimp only
  rw [h]
  rfl
theorem dz_as_inj {x y : qx_T} : ∀ {a b : List qx_T}, a.length = b.length → dz_as a x = dz_as b y → x = y
  | [], [], _, h => h
  | [], _ :: _, h, _ => by cases h
  | _ :: _, [], h, _ => by cases h
  | A :: a, B :: b, h, e => by
    rw [List.length_cons, List.length_cons] at h
    have e' : qx_a A (dz_as a x) = qx_a B (dz_as b y) := e
    injection e' with _ _ _ _ e2
    exact dz_as_inj (by omega) e2
section
variable {TV TV' : Int → qx_T → Prop} {AR AR' : Nat → List Int} {th : Int → rf_N}
theorem vl_c1_eq (hg : ∀ m, vx_on (th m)) : ∀ {x : qx_T} {W W' : rf_N} {k h h' : Int} {f f' : rf_N} {ρ ρ' : List Int}, vl_c1 TV x W k h f ρ → vl_c1 TV' x W' k h' f' ρ' → k ≠ 0 → k ≠ 3 → (∀ e e', vl_ag ρ ρ' e e' → (if k = 2 then e h else h) = (if k = 2 then e' h' else h')) → (∀ e e' L, vl_ag ρ ρ' e e' → vx_val th AR f e L = vx_val th AR' f' e' L) → ∀ e e' L, vl_ag ρ ρ' e e' → vx_val th AR W e L = vx_val th AR' W' e' L
  | .leaf, W, W', k, h, h', f, f', ρ, ρ', ⟨j, h1⟩, ⟨j', h1'⟩, k0, k3, hh, hf, e, e', L, ha => by
    rw [h1, h1', vx_val_in, vx_val_in, if_neg k0, if_neg k3, if_neg k0, if_neg k3]
    have a := hh e e' ha
    have b := hf e e' L ha
    dsimp only
    rw [a, b]
    rfl
  | .inner _ b _ x y, W, W', k, h, h', f, f', ρ, ρ', h1, h1', k0, k3, hh, hf, e, e', L, ha => by
    rcases h1 with ⟨b1, j, h1⟩ | ⟨⟨b1, _⟩, j, v, g, V, h1, ⟨h2, h6, h7⟩, h3, h4, h5⟩ <;> rcases h1' with ⟨b1', j', h1'⟩ | ⟨⟨b1', _⟩, j', v', g', V', h1', ⟨h2', h6', h7'⟩, h3', h4', h5'⟩
    · rw [h1, h1', vx_val_in, vx_val_in, if_neg k0, if_neg k3, if_neg k0, if_neg k3]
      have a := hh e e' ha
      have b := hf e e' L ha
      dsimp only
      rw [a, b]
      rfl
    · rw [b1] at b1'
      cases b1'
    · rw [b1] at b1'
      cases b1'
    · rw [h1, h1']
      refine vl_lam ?_
      refine vl_c1_eq hg h5 h5' k0 k3 (fun d d' hd => hh d d' (vl_ag_dn hd)) (fun d d' M hd => ?_) _ _ _ (vl_ag_up h2 h2' ha)
      rw [vx_val_snoc hg, vx_val_snoc hg, hf d d' M (vl_ag_dn hd), vl_c1_eq hg h4 h4' (by decide) (by decide) (fun d d' hd => by rw [if_pos rfl, if_pos rfl]; exact vl_ag_top hd) (fun _ _ _ _ => rfl) d d' M hd]
theorem vl_c3_eq (hg : ∀ m, vx_on (th m)) : ∀ {x : qx_T} {W W' : rf_N} {h : Int} {vs vs' : List Int} {ρ ρ' : List Int}, vl_c3 TV AR x W h vs ρ → vl_c3 TV' AR' x W' h vs' ρ' → (∀ e e', vl_ag ρ ρ' e e' → vs.map e = vs'.map e') → ∀ e e' L, vl_ag ρ ρ' e e' → vx_val th AR W e L = vx_val th AR' W' e' L
  | .leaf, W, W', h, vs, vs', ρ, ρ', ⟨j, F, h1, h2⟩, ⟨j', F', h1', h2'⟩, hv, e, e', L, ha => by
    rw [h1, h1', vx_call hg, vx_call hg, h2, h2', hv e e' ha]
  | .inner _ b _ x y, W, W', h, vs, vs', ρ, ρ', h1, h1', hv, e, e', L, ha => by
    rcases h1 with ⟨b1, j, F, h1, h2⟩ | ⟨⟨b1, _⟩, j, v, V, h1, ⟨h2, h6, h7⟩, h3⟩ <;> rcases h1' with ⟨b1', j', F', h1', h2'⟩ | ⟨⟨b1', _⟩, j', v', V', h1', ⟨h2', h6', h7'⟩, h3'⟩
    · rw [h1, h1', vx_call hg, vx_call hg, h2, h2', hv e e' ha]
    · rw [b1] at b1'
      cases b1'
    · rw [b1] at b1'
      cases b1'
    · rw [h1, h1']
      refine vl_lam ?_
      refine vl_c3_eq hg h3 h3' (fun d d' hd => ?_) _ _ _ (vl_ag_up h2 h2' ha)
      rw [List.map_append, List.map_append, hv d d' (vl_ag_dn hd), List.map_cons, List.map_cons, vl_ag_top hd]
      rfl
theorem vl_tm_eq {SN : Int → Int → Prop} {C M : List (Int × qx_T)} (hg : ∀ m, vx_on (th m)) (hpv : ∀ {f : px_N} {Γ : List (Int × qx_T)} {ls ls' : List Nat}, (px_pv SN f).2 Γ ls → (px_pv SN f).2 Γ ls' → ls = ls') : ∀ {n : px_N}, (∀ {W W' : rf_N} {Γ : List (Int × qx_T)} {ρ ρ' : List Int} {x x' : qx_T}, ρ.length = Γ.length → (vl_tm SN C M TV AR n).1 W Γ ρ x → (vl_tm SN C M TV' AR' n).1 W' Γ ρ' x' → x = x' ∧ ∀ e e' L, vl_ag ρ ρ' e e' → vx_val th AR W e L = vx_val th AR' W' e' L) ∧ (∀ {F F' : rf_N} {Γ : List (Int × qx_T)} {ρ ρ' : List Int} {U L L' : qx_T}, ρ.length = Γ.length → (vl_tm SN C M TV AR n).2 F Γ ρ U L → (vl_tm SN C M TV' AR' n).2 F' Γ ρ' U L' → L = L' ∧ ∀ e e' M, vl_ag ρ ρ' e e' → vx_val th AR F e M = vx_val th AR' F' e' M)
  | .leaf => ⟨fun _ h => h.elim, fun {F F' Γ ρ ρ' U L L'} _ ⟨h1, h2⟩ ⟨h1', h2'⟩ => ⟨h2.symm.trans h2', fun e e' M _ => by rw [h1, h1']; rfl⟩⟩
  | .inner g q u0 f n => by
    have hf := vl_tm_eq (SN := SN) (C := C) (M := M) hg hpv (n := f)
    have hn := vl_tm_eq (SN := SN) (C := C) (M := M) hg hpv (n := n)
    have one : ∀ {W W' : rf_N} {Γ : List (Int × qx_T)} {ρ ρ' : List Int} {x x' : qx_T}, ρ.length = Γ.length → (vl_tm SN C M TV AR (.inner g q u0 f n)).1 W Γ ρ x → (vl_tm SN C M TV' AR' (.inner g q u0 f n)).1 W' Γ ρ' x' → x = x' ∧ ∀ e e' L, vl_ag ρ ρ' e e' → vx_val th AR W e L = vx_val th AR' W' e' L := by
      intro W W' Γ ρ ρ' x x' hl h h'
      rcases h with ⟨g0, j, v, F, B, h1, ⟨h2, _⟩, h3, h4⟩ | ⟨g0, k, i, U, h0, h1, ⟨h2, h2n⟩, h3⟩ <;> rcases h' with ⟨g0', j', v', F', B', h1', ⟨h2', _⟩, h3', h4'⟩ | ⟨g0', k', i', U', h0', h1', ⟨h2', h2n'⟩, h3'⟩
      · obtain ⟨a, b⟩ := hf.1 (by rw [List.length_cons, List.length_cons, hl]) h3 h3'
        refine ⟨by rw [h4, h4', a], fun e e' L ha => ?_⟩
        rw [h1, h1']
        exact vl_lam (b _ _ _ (vl_ag_up h2 h2' ha))
      · exact absurd g0 g0'
      · exact absurd g0' g0
      · obtain ⟨a1, a2, a3⟩ := px_hd_fun h1 h1'
        subst a1 a2 a3
        have k0 : k ≠ 0 := by
          rcases h1 with ⟨z, _⟩ | ⟨z, _⟩ | ⟨z, _⟩ <;> omega
        rcases h3 with ⟨k3, F, r1, r2⟩ | ⟨k3, ls, r1, r1', r3, r2⟩ <;> rcases h3' with ⟨k3', F', t1, t2⟩ | ⟨k3', ls', t1, t1', t3, t2⟩
        · obtain ⟨b1, b2⟩ := hf.2 hl r1 t1
          subst b1
          refine ⟨rfl, vl_c1_eq hg r2 t2 k0 k3 (fun e e' ha => ?_) b2⟩
          by_cases c : k = 2
          · rw [if_pos c, if_pos c, h2 c, h2' c]
            have hi : i < Γ.length := by
              rcases h1 with ⟨_, z⟩ | ⟨z, _⟩ | ⟨z, _⟩
              · exact px_vr_lt z
              · omega
              · omega
            exact ha.2 i (by omega)
          · rw [if_neg c, if_neg c, h2n c, h2n' c]
        · exact absurd k3' k3
        · exact absurd k3 k3'
        · have el : ls = ls' := hpv r1 t1
          subst el
          have ex : x = x' := dz_as_inj rfl (r3.symm.trans t3)
          subst ex
          have c : k ≠ 2 := by omega
          rw [h2n c] at r2
          rw [h2n' c] at t2
          refine ⟨rfl, vl_c3_eq hg r2 t2 (fun e e' ha => ?_)⟩
          rw [List.map_map, List.map_map]
          exact List.map_congr_left (fun l hl' => ha.2 l (by have := r1' l hl'; omega))
    refine ⟨one, fun {F F' Γ ρ ρ' U L L'} hl h h' => ?_⟩
    obtain ⟨W, X, A, U1, ⟨a1, a2⟩, a3, a4, a5⟩ := vl_tm_c.mp h
    obtain ⟨W', X', A', U1', ⟨a1', a2'⟩, a3', a4', a5'⟩ := vl_tm_c.mp h'
    have ee : qx_a A U1 = qx_a A' U1' := a3.symm.trans a3'
    have e2 : U1 = U1' := by
      injection ee
    subst e2
    obtain ⟨b1, b2⟩ := one hl a4 a4'
    obtain ⟨c1, c2⟩ := hn.2 hl a5 a5'
    refine ⟨c1, fun e e' N ha => ?_⟩
    obtain ⟨j, k, h, G, rfl⟩ := a1
    obtain ⟨j', k', h', G', rfl⟩ := a1'
    rw [a2, a2']
    show vx_val th AR (.inner j (k, h) () G X) e N = vx_val th AR' (.inner j' (k', h') () G' X') e' N
    rw [vx_val_1 hg, vx_val_1 hg j', c2 e e' N ha]
    have := b2 e e' N ha
    have t : vx_val th AR (.inner j (k, h) () G .leaf) e N = vx_val th AR' (.inner j' (k', h') () G' .leaf) e' N := this
    rw [t]
end
