section
/-! ===== the desk's complete makes long forms ===== -/
/-- the ARGs of calls, as AR has them -/
def dl_ar (AR : Nat → List Int) : rf_N → Prop
  | .leaf => True
  | .inner j q _ F X => (q.1 = 3 → AR j = dz_hs F) ∧ (q.1 ≠ 3 → dl_ar AR F) ∧ dl_ar AR X
def dl_TV (u : sx_S) (v : Int) (T : qx_T) : Prop := 0 ≤ v ∧ v < u.1 11 8 ∧ dx_is u T (u.2.1 17 v.toNat)
/-- the \ bind lo .. hi - 1, each once -/
def dl_nb (lo hi : Int) (W : rf_N) : Prop := vx_nb W (fun z => ¬ (lo ≤ z ∧ z < hi))
theorem vl_c1_mono {TV TV' : Int → qx_T → Prop} (hT : ∀ v T, TV v T → TV' v T) : ∀ {x : qx_T} {W : rf_N} {k h : Int} {f : rf_N} {ρ : List Int}, vl_c1 TV x W k h f ρ → vl_c1 TV' x W k h f ρ
  | .leaf, _, _, _, _, _, h => h
  | .inner _ b _ x y, _, _, _, _, _, h => by
    rcases h with h | ⟨h0, j, v, g, W', h1, ⟨h2, h3, h4⟩, h5, h6, h7⟩
    · exact Or.inl h
    · exact Or.inr ⟨h0, j, v, g, W', h1, ⟨h2, h3, hT v x h4⟩, h5, vl_c1_mono hT h6, vl_c1_mono hT h7⟩
theorem vl_c3_mono {TV TV' : Int → qx_T → Prop} {AR : Nat → List Int} (hT : ∀ v T, TV v T → TV' v T) : ∀ {x : qx_T} {W : rf_N} {h : Int} {vs ρ : List Int}, vl_c3 TV AR x W h vs ρ → vl_c3 TV' AR x W h vs ρ
  | .leaf, _, _, _, _, h => h
  | .inner _ b _ x y, _, _, _, _, h => by
    rcases h with h | ⟨h0, j, v, W', h1, ⟨h2, h3, h4⟩, h7⟩
    · exact Or.inl h
    · exact Or.inr ⟨h0, j, v, W', h1, ⟨h2, h3, hT v x h4⟩, vl_c3_mono hT h7⟩
def dl_lam : List Int → rf_N → rf_N → Prop
  | [], b, W => W = b
  | v :: vs, b, W => ∃ (j : Nat) (W' : rf_N), W = rf_n j 0 v W' .leaf ∧ dl_lam vs b W'
/-- the ARGs put in -/
def dl_gs (k base x5 : Int) (Ts : List qx_T) (G : rf_N) (u : sx_S) : Prop := True → ∀ (i : Nat) g, (vx_el G)[i]? = some g → (∃ c c' : Int, base + x5 ≤ c ∧ c' ≤ u.1 11 8 ∧ dl_nb c c' g) ∧ (k = 3 → ∃ j, g = rf_n j 2 (base + (i : Int)) .leaf .leaf) ∧ (k ≠ 3 → vx_sg g ∧ ∀ T, Ts[i]? = some T → ∀ ρ : List Int, (∀ z ∈ ρ, z < base + x5) → vl_c1 (dl_TV u) T g 2 (base + (i : Int)) .leaf ρ)
/-- what complete makes -/
def dl_sem (s t : sx_S) (x : qx_T) (W : rf_N) (k h : Int) (f : rf_N) : Prop := True → (∀ lo0, lo0 ≤ s.1 11 8 → (k ≠ 3 → dl_nb lo0 (s.1 11 8) f) → dl_nb lo0 (t.1 11 8) W) ∧ (k ≠ 3 → ∀ ρ : List Int, (∀ z ∈ ρ, z < s.1 11 8) → vl_c1 (dl_TV t) x W k h f ρ) ∧ (k = 3 → ∀ (AR : Nat → List Int) (ρ : List Int), dl_ar AR W → (∀ z ∈ ρ, z < s.1 11 8) → vl_c3 (dl_TV t) AR x W h (dz_hs f) ρ) ∧ vx_sg W
theorem dl_TV_mono {s t : sx_S} (hF : cx_F [(11, 17)] s t) (h8 : s.1 11 8 ≤ t.1 11 8) (h17 : ∀ j : Nat, (j : Int) < s.1 11 8 → t.2.1 17 j = s.2.1 17 j) : ∀ v T, dl_TV s v T → dl_TV t v T := fun v T ⟨h1, h2, h3⟩ => ⟨h1, by omega, by
  rw [h17 v.toNat (by omega)]
  exact dz_is_F hF h3⟩
theorem dl_gs_mono {k base x5 : Int} {Ts : List qx_T} {G : rf_N} {s t : sx_S} (hF : cx_F [(11, 17)] s t) (h8 : s.1 11 8 ≤ t.1 11 8) (h17 : ∀ j : Nat, (j : Int) < s.1 11 8 → t.2.1 17 j = s.2.1 17 j) (h : dl_gs k base x5 Ts G s) : dl_gs k base x5 Ts G t := fun _ i g hg => by
  obtain ⟨⟨c, c', h1, h2, h3⟩, h4, h5⟩ := h trivial i g hg
  exact ⟨⟨c, c', h1, by omega, h3⟩, h4, fun q => ⟨(h5 q).1, fun T hT ρ hρ => vl_c1_mono (dl_TV_mono hF h8 h17) ((h5 q).2 T hT ρ hρ)⟩⟩
theorem dl_at1 {u : sx_S} {y : qx_T} {z : Int} (h : dx_is u y z) (hz : z < 2 ∨ u.1 8 2 ≤ z) : qx_at y = 1 := by
  cases y with
  | leaf => rfl
  | inner j k _ a b =>
    obtain ⟨_, h⟩ := h
    rcases h with ⟨h1, _⟩ | ⟨_, h2, _⟩
    · rw [h1]
      rfl
    · omega
theorem vx_nb_snoc {V : Int → Prop} {g : rf_N} (hg : vx_nb g V) : ∀ {f : rf_N}, vx_nb f V → vx_nb (rf_snoc f g) V
  | .leaf, _ => hg
  | .inner j q u F X, ⟨h1, h2⟩ => ⟨h1, vx_nb_snoc hg h2⟩
theorem vx_nb_row {V : Int → Prop} : ∀ {G : rf_N}, (∀ g ∈ vx_el G, vx_nb g V) → vx_nb G V
  | .leaf, _ => trivial
  | .inner j q u F X, h => ⟨(h _ List.mem_cons_self).1, vx_nb_row (fun g hg => h g (List.mem_cons_of_mem _ hg))⟩
theorem dl_mk1 {TV : Int → qx_T → Prop} {y : qx_T} (hy : qx_at y = 1) {a0 : Nat} {k h : Int} : ∀ {Ts : List qx_T} {bs : List Int} {G f W : rf_N} {ρ : List Int} {hi : Int}, bs.length = Ts.length → (vx_el G).length = Ts.length → bs.Pairwise (· < ·) → (∀ z ∈ ρ, ∀ b ∈ bs, z < b) → (∀ b ∈ bs, 0 ≤ b ∧ b < hi) → (∀ z ∈ ρ, z < hi) → (∀ (i : Nat) b T, bs[i]? = some b → Ts[i]? = some T → TV b T) → (∀ (i : Nat) g b T, (vx_el G)[i]? = some g → bs[i]? = some b → Ts[i]? = some T → vx_sg g ∧ ∀ ρ : List Int, (∀ z ∈ ρ, z < hi) → vl_c1 TV T g 2 b .leaf ρ) → dl_lam bs (rf_n a0 k h (rf_snoc f G) .leaf) W → vl_c1 TV (dz_as Ts y) W k h f ρ
  | [], [], G, f, W, ρ, hi, _, hG, _, _, _, _, _, _, hW => by
    have e : G = .leaf := by
      cases G with
      | leaf => rfl
      | inner j q u F X =>
        have hG' : (vx_el X).length + 1 = 0 := hG
        omega
    subst e
    rw [rf_snoc_leaf] at hW
    have hW' : W = rf_n a0 k h f .leaf := hW
    cases y with
    | leaf => exact ⟨a0, hW'⟩
    | inner j b _ x z =>
      cases b with
      | true => exact Or.inl ⟨rfl, a0, hW'⟩
      | false =>
        have h1 : qx_at x + qx_at z = 1 := hy
        have := qx_at_pos x
        have := qx_at_pos z
        omega
  | [], _ :: _, _, _, _, _, _, h, _, _, _, _, _, _, _, _ => by cases h
  | _ :: _, [], _, _, _, _, _, h, _, _, _, _, _, _, _, _ => by cases h
  | T :: Ts, b :: bs, G, f, W, ρ, hi, hl, hG, hp, hρ, hb, hρh, hTV, hg, ⟨j, W', e, hW⟩ => by
    cases G with
    | leaf =>
      rw [List.length_cons] at hG
      have hG' : 0 = Ts.length + 1 := hG
      omega
    | inner gj gq gu gF gX =>
      rw [List.length_cons, List.length_cons] at hl
      have hG' : (vx_el gX).length + 1 = Ts.length + 1 := hG
      obtain ⟨p1, p2⟩ := List.pairwise_cons.mp hp
      obtain ⟨g1, g2⟩ := hg 0 (.inner gj gq () gF .leaf) b T rfl rfl rfl
      have bb := hb b List.mem_cons_self
      have hρ2 : ∀ z ∈ b :: ρ, z < hi := fun z hz => by
        rcases List.mem_cons.mp hz with rfl | hz
        · exact bb.2
        · exact hρh z hz
      have es : rf_snoc f (.inner gj gq gu gF gX) = rf_snoc (rf_snoc f (.inner gj gq () gF .leaf)) gX := by
        rw [rf_snoc_assoc]
        rfl
      rw [es] at hW
      refine Or.inr ⟨⟨rfl, rfl⟩, j, b, .inner gj gq () gF .leaf, W', e, ⟨fun z => ?_, bb.1, hTV 0 b T rfl rfl⟩, g1, g2 _ hρ2, ?_⟩
      · have := hρ b z b List.mem_cons_self
        omega
      · exact dl_mk1 hy (by omega) (by omega) p2 (fun z hz c hc => by
          rcases List.mem_cons.mp hz with rfl | hz
          · exact p1 c hc
          · exact hρ z hz c (List.mem_cons_of_mem _ hc)) (fun c hc => hb c (List.mem_cons_of_mem _ hc)) hρ2 (fun i c T' h1 h2 => hTV (i + 1) c T' (by rw [List.getElem?_cons_succ]; exact h1) (by rw [List.getElem?_cons_succ]; exact h2)) (fun i g c T' h0 h1 h2 => hg (i + 1) g c T' (by show (_ :: vx_el gX)[i + 1]? = _; rw [List.getElem?_cons_succ]; exact h0) (by rw [List.getElem?_cons_succ]; exact h1) (by rw [List.getElem?_cons_succ]; exact h2)) hW
theorem dl_mk3 {TV : Int → qx_T → Prop} {AR : Nat → List Int} {y : qx_T} (hy : qx_at y = 1) {a0 : Nat} {h : Int} {F : rf_N} : ∀ {Ts : List qx_T} {bs : List Int} {W : rf_N} {vs ρ : List Int}, bs.length = Ts.length → AR a0 = vs ++ bs → bs.Pairwise (· < ·) → (∀ z ∈ ρ, ∀ b ∈ bs, z < b) → (∀ b ∈ bs, 0 ≤ b) → (∀ (i : Nat) b T, bs[i]? = some b → Ts[i]? = some T → TV b T) → dl_lam bs (rf_n a0 3 h F .leaf) W → vl_c3 TV AR (dz_as Ts y) W h vs ρ
  | [], [], W, vs, ρ, _, hA, _, _, _, _, hW => by
    have hW' : W = rf_n a0 3 h F .leaf := hW
    rw [List.append_nil] at hA
    cases y with
    | leaf => exact ⟨a0, F, hW', hA⟩
    | inner j b _ x z =>
      cases b with
      | true => exact Or.inl ⟨rfl, a0, F, hW', hA⟩
      | false =>
        have h1 : qx_at x + qx_at z = 1 := hy
        have := qx_at_pos x
        have := qx_at_pos z
        omega
  | [], _ :: _, _, _, _, h, _, _, _, _, _, _ => by cases h
  | _ :: _, [], _, _, _, h, _, _, _, _, _, _ => by cases h
  | T :: Ts, b :: bs, W, vs, ρ, hl, hA, hp, hρ, hb, hTV, ⟨j, W', e, hW⟩ => by
    rw [List.length_cons, List.length_cons] at hl
    obtain ⟨p1, p2⟩ := List.pairwise_cons.mp hp
    refine Or.inr ⟨⟨rfl, rfl⟩, j, b, W', e, ⟨fun z => ?_, hb b List.mem_cons_self, hTV 0 b T rfl rfl⟩, ?_⟩
    · have := hρ b z b List.mem_cons_self
      omega
    · exact dl_mk3 hy (by omega) (by rw [hA, List.append_assoc]; rfl) p2 (fun z hz c hc => by
        rcases List.mem_cons.mp hz with rfl | hz
        · exact p1 c hc
        · exact hρ z hz c (List.mem_cons_of_mem _ hc)) (fun c hc => hb c (List.mem_cons_of_mem _ hc)) (fun i c T' h1 h2 => hTV (i + 1) c T' (by rw [List.getElem?_cons_succ]; exact h1) (by rw [List.getElem?_cons_succ]; exact h2)) hW
theorem dl_lam_nb {b : rf_N} : ∀ {bs : List Int} {W : rf_N} {V : Int → Prop}, dl_lam bs b W → bs.Pairwise (· < ·) → (∀ c ∈ bs, 0 ≤ c ∧ ¬ V c) → vx_nb b (fun z => z ∈ bs ∨ V z) → vx_nb W V
  | [], W, V, h, _, _, hb => by
    have h' : W = b := h
    rw [h']
    exact vx_nb_mono (fun z hz => Or.inr hz) hb
  | c :: bs, W, V, ⟨j, W', e, h⟩, hp, hc, hb => by
    obtain ⟨p1, p2⟩ := List.pairwise_cons.mp hp
    rw [e]
    refine ⟨Or.inl ⟨rfl, hc c List.mem_cons_self, dl_lam_nb h p2 (fun d hd => ⟨(hc d (List.mem_cons_of_mem _ hd)).1, ?_⟩) (vx_nb_mono (fun z hz => ?_) hb)⟩, trivial⟩
    · rintro (q | q)
      · have := p1 d hd
        have q' : d = c := q
        omega
      · exact (hc d (List.mem_cons_of_mem _ hd)).2 q
    · rcases hz with hz | hz | hz
      · exact Or.inl (List.mem_cons_of_mem _ hz)
      · have hz' : z = c := hz
        rw [hz']
        exact Or.inl List.mem_cons_self
      · exact Or.inr hz
theorem dl_lam_ar {AR : Nat → List Int} {a0 : Nat} {h : Int} {F : rf_N} : ∀ {bs : List Int} {W : rf_N}, dl_lam bs (rf_n a0 3 h F .leaf) W → dl_ar AR W → AR a0 = dz_hs F
  | [], W, e, h => by
    have e' : W = rf_n a0 3 _ F .leaf := e
    rw [e'] at h
    exact h.1 rfl
  | c :: bs, W, ⟨j, W', e, h'⟩, h => by
    rw [e] at h
    exact dl_lam_ar h' (h.2.1 vx_03)
theorem dz_bs_get {b : Int} {n i : Nat} {c : Int} (h : (dz_bs b n)[i]? = some c) : c = b + (i : Int) ∧ i < n := by
  unfold dz_bs at h
  rw [List.getElem?_map] at h
  have hi : i < n := by
    apply Classical.byContradiction
    intro q
    rw [List.getElem?_eq_none (by rw [List.length_range]; omega)] at h
    cases h
  rw [List.getElem?_range hi] at h
  exact ⟨(Option.some.inj h).symm, hi⟩
theorem dz_bs_mem {b : Int} {n : Nat} {c : Int} (h : c ∈ dz_bs b n) : b ≤ c ∧ c < b + (n : Int) := by
  obtain ⟨i, hi⟩ := List.mem_iff_getElem?.mp h
  obtain ⟨e, hl⟩ := dz_bs_get hi
  omega
theorem dz_bs_pw (b : Int) : ∀ n : Nat, (dz_bs b n).Pairwise (· < ·)
  | 0 => List.Pairwise.nil
  | n + 1 => by
    rw [dz_bs_s]
    refine List.pairwise_append.mpr ⟨dz_bs_pw b n, List.pairwise_cons.mpr ⟨fun _ h => absurd h List.not_mem_nil, List.Pairwise.nil⟩, fun x hx y hy => ?_⟩
    have := dz_bs_mem hx
    rw [List.mem_singleton.mp hy]
    omega
/-- put together -/
theorem dl_fin {s t : sx_S} {x y : qx_T} {Ts : List qx_T} {a0 : Nat} {k h : Int} {f G W : rf_N} (h0 : 0 ≤ s.1 11 8) (hx : x = dz_as Ts y) (hy : qx_at y = 1) (hk : k ≠ 0) (hG : rf_len G = Ts.length) (hgs : dl_gs k (s.1 11 8) (Ts.length : Int) Ts G t) (hTs : ∀ (i : Nat) T, Ts[i]? = some T → dx_is t T (t.2.1 17 (s.1 11 8 + (i : Int)).toNat)) (h8 : s.1 11 8 + (Ts.length : Int) ≤ t.1 11 8) (hW : dl_lam (dz_bs (s.1 11 8) Ts.length) (rf_n a0 k h (rf_snoc f G) .leaf) W) : dl_sem s t x W k h f := fun _ => by
  have hTV : ∀ (i : Nat) b T, (dz_bs (s.1 11 8) Ts.length)[i]? = some b → Ts[i]? = some T → dl_TV t b T := fun i b T h1 h2 => by
    obtain ⟨e, hl⟩ := dz_bs_get h1
    rw [e]
    exact ⟨by omega, by omega, hTs i T h2⟩
  have lb := dz_bs_len (s.1 11 8) Ts.length
  refine ⟨fun lo0 hlo hf => ?_, fun k3 ρ hρ => ?_, fun k3 AR ρ hA hρ => ?_, ?_⟩
  · refine dl_lam_nb hW (dz_bs_pw _ _) (fun c hc => by have := dz_bs_mem hc; exact ⟨by omega, fun q => q (by omega)⟩) ⟨?_, trivial⟩
    by_cases k3 : k = 3
    · exact Or.inr (Or.inr k3)
    · refine Or.inr (Or.inl ⟨hk, k3, vx_nb_snoc (vx_nb_row (fun g hg => ?_)) (vx_nb_mono (fun z hz => ?_) (hf k3))⟩)
      · obtain ⟨i, hi⟩ := List.mem_iff_getElem?.mp hg
        obtain ⟨⟨c, c', h1, h2, h3⟩, _⟩ := hgs trivial i g hi
        refine vx_nb_mono (fun z hz => ?_) h3
        rcases hz with hz | hz
        · have := dz_bs_mem hz
          omega
        · omega
      · rcases hz with hz | hz
        · have := dz_bs_mem hz
          omega
        · omega
  · rw [hx]
    refine dl_mk1 (hi := s.1 11 8 + (Ts.length : Int)) hy lb (by rw [vx_el_len, hG]) (dz_bs_pw _ _) (fun z hz b hb => by have := hρ z hz; have := dz_bs_mem hb; omega) (fun b hb => by have := dz_bs_mem hb; omega) (fun z hz => by have := hρ z hz; omega) hTV (fun i g b T h1 h2 h3 => ?_) hW
    obtain ⟨_, _, g3⟩ := hgs trivial i g h1
    obtain ⟨e, _⟩ := dz_bs_get h2
    rw [e]
    exact ⟨(g3 k3).1, (g3 k3).2 T h3⟩
  · subst k3
    rw [hx]
    refine dl_mk3 hy lb ?_ (dz_bs_pw _ _) (fun z hz b hb => by have := hρ z hz; have := dz_bs_mem hb; omega) (fun b hb => by have := dz_bs_mem hb; omega) hTV hW
    rw [dl_lam_ar hW hA, dz_hs_snoc]
    congr 1
    refine List.ext_getElem? (fun i => ?_)
    by_cases hi : i < Ts.length
    · have hi' : i < (vx_el G).length := by rw [vx_el_len, hG]; exact hi
      obtain ⟨_, g2, _⟩ := hgs trivial i _ (List.getElem?_eq_getElem hi')
      obtain ⟨j, ej⟩ := g2 rfl
      have hh : ∀ {G : rf_N} {i : Nat} {g : rf_N}, (vx_el G)[i]? = some g → ∀ {j : Nat} {v : Int}, g = rf_n j 2 v .leaf .leaf → (dz_hs G)[i]? = some v := by
        intro G
        induction G with
        | leaf => intro i g hg; simp [vx_el] at hg
        | inner gj gq gu gF gX ihF ihX =>
          intro i g hg j v e
          cases i with
          | zero =>
            have e0 : (.inner gj gq () gF .leaf : rf_N) = g := by simpa [vx_el] using hg
            rw [e] at e0
            injection e0 with _ e1
            show some gq.2 = some v
            rw [e1]
          | succ i =>
            have hg' : (vx_el gX)[i]? = some g := by simpa [vx_el] using hg
            show (dz_hs gX)[i]? = some v
            exact ihX hg' e
      rw [hh (List.getElem?_eq_getElem hi') ej]
      unfold dz_bs
      rw [List.getElem?_map, List.getElem?_range hi]
      rfl
    · rw [List.getElem?_eq_none (by rw [dz_hs_len]; omega), List.getElem?_eq_none (by rw [lb]; omega)]
  · cases q : dz_bs (s.1 11 8) Ts.length with
    | nil =>
      rw [q] at hW
      have hW' : W = _ := hW
      exact ⟨_, _, _, _, hW'⟩
    | cons c bs =>
      rw [q] at hW
      obtain ⟨j, W', e, _⟩ := hW
      exact ⟨_, _, _, _, e⟩
/-- what complete leaves -/
def dl_cp (lo : Int) (x : qx_T) (k h : Int) (f : rf_N) (s t : sx_S) (z : Int) (W : rf_N) : Prop := True → W ≠ .leaf ∧ dz_T lo t W z ∧ dz_fr (fun j => (j : Int) < lo) s t ∧ (t.1 11 6 + 2 ≤ s.1 11 6 + 2 * (qx_at x : Int) ∧ s.1 11 8 ≤ t.1 11 8 ∧ t.1 11 8 + 1 ≤ s.1 11 8 + (qx_at x : Int)) ∧ (∀ j : Nat, (j : Int) < s.1 11 8 → t.2.1 17 j = s.2.1 17 j) ∧ dz_sem W k h f (qx_at x) ∧ dl_sem s t x W k h f
/-- with x7 of the ARGs put in -/
def dl_i70 (lo : Int) (x : qx_T) (a0 k h : Int) (f : rf_N) (s : sx_S) (Ts : List qx_T) (y : qx_T) (G : rf_N) (x5 x7 N : Int) (u : sx_S) : Prop := True → x = dz_as Ts y ∧ ((Ts.length : Int) = x5 ∧ x5 ≤ 4 ∧ 0 ≤ x7 ∧ x7 ≤ x5 ∧ (rf_len G : Int) = x7) ∧ dz_T lo u (rf_n a0.toNat k h (rf_snoc f G) .leaf) a0 ∧ dz_fr (fun j => (j : Int) < lo) s u ∧ (s.1 11 6 + x7 ≤ N ∧ N + x7 + 2 * (dz_sm (Ts.drop x7.toNat) : Int) ≤ s.1 11 6 + 2 * (dz_sm Ts : Int)) ∧ (s.1 11 8 + x5 ≤ u.1 11 8 ∧ u.1 11 8 + x7 + (dz_sm (Ts.drop x7.toNat) : Int) ≤ s.1 11 8 + x5 + (dz_sm Ts : Int)) ∧ (∀ j : Nat, (j : Int) < s.1 11 8 → u.2.1 17 j = s.2.1 17 j) ∧ (∀ (i : Nat) T, Ts[i]? = some T → dx_is u T (u.2.1 17 (s.1 11 8 + (i : Int)).toNat)) ∧ (k ≠ 3 → ∀ g, qx_at x ≤ g + 1 → (dz_av G).2 g (dz_bs (s.1 11 8) x7.toNat)) ∧ qx_at y = 1 ∧ dl_gs k (s.1 11 8) x5 Ts G u
def dl_i158 (lo : Int) (x : qx_T) (a0 k h : Int) (f : rf_N) (s : sx_S) (Ts : List qx_T) (y : qx_T) (L : Nat) (G W : rf_N) (x7 x8 : Int) (u : sx_S) : Prop := True → ((L : Int) ≤ 4 ∧ L + 1 ≤ qx_at x ∧ rf_len G = L) ∧ (-1 ≤ x8 ∧ x8 < (L : Int)) ∧ W ≠ .leaf ∧ dz_T lo u W x7 ∧ dz_fr (fun j => (j : Int) < lo) s u ∧ rf_dn (rf_n a0.toNat k h (rf_snoc f G) .leaf) (L - 1 - x8).toNat W ∧ rf_rf (L - 1 - x8).toNat W = (dz_bs (s.1 11 8) L).drop (x8 + 1).toNat ∧ (u.1 11 6 + x8 + 3 ≤ s.1 11 6 + 2 * (qx_at x : Int) ∧ s.1 11 8 ≤ u.1 11 8 ∧ u.1 11 8 + 1 ≤ s.1 11 8 + (qx_at x : Int)) ∧ (∀ j : Nat, (j : Int) < s.1 11 8 → u.2.1 17 j = s.2.1 17 j) ∧ (k ≠ 3 → ∀ g, qx_at x ≤ g + 1 → (dz_av G).2 g (dz_bs (s.1 11 8) L)) ∧ (x = dz_as Ts y ∧ qx_at y = 1 ∧ Ts.length = L) ∧ dl_gs k (s.1 11 8) (Ts.length : Int) Ts G u ∧ (∀ (i : Nat) T, Ts[i]? = some T → dx_is u T (u.2.1 17 (s.1 11 8 + (i : Int)).toNat)) ∧ s.1 11 8 + (Ts.length : Int) ≤ u.1 11 8 ∧ dl_lam ((dz_bs (s.1 11 8) L).drop (x8 + 1).toNat) (rf_n a0.toNat k h (rf_snoc f G) .leaf) W
/-- one ARG more -/
theorem dl_i70_s {lo : Int} {x : qx_T} {a0 k h : Int} {f : rf_N} {s u t : sx_S} {Ts : List qx_T} {y T : qx_T} {G W : rf_N} {x5 x7 N : Int} (hi : dl_i70 lo x a0 k h f s Ts y G x5 x7 N u) (hx : x7 < x5) (hT : Ts[x7.toNat]? = some T) (hF : cx_F [(11, 17)] u t) (h0 : 0 ≤ s.1 11 8) (hW : W ≠ .leaf) (hn : rf_nx W) (hTr : dz_T lo t (rf_n a0.toNat k h (rf_snoc (rf_snoc f G) W) .leaf) a0) (hfr : dz_fr (fun j => (j : Int) < lo) u t) (hN1 : N + 1 ≤ t.1 11 6) (hN2 : t.1 11 6 + 1 ≤ N + 2 * (qx_at T : Int)) (hV1 : u.1 11 8 ≤ t.1 11 8) (hV2 : t.1 11 8 + 1 ≤ u.1 11 8 + (qx_at T : Int)) (h17 : ∀ j : Nat, (j : Int) < u.1 11 8 → t.2.1 17 j = u.2.1 17 j) (hs : k ≠ 3 → ∀ g, qx_at T ≤ g → (dz_av W).1 g [] (s.1 11 8 + x7)) (hg1 : ∃ c c' : Int, s.1 11 8 + x5 ≤ c ∧ c' ≤ t.1 11 8 ∧ dl_nb c c' W) (hg2 : k = 3 → ∃ j, W = rf_n j 2 (s.1 11 8 + x7) .leaf .leaf) (hg3 : k ≠ 3 → vx_sg W ∧ ∀ ρ : List Int, (∀ z ∈ ρ, z < s.1 11 8 + x5) → vl_c1 (dl_TV t) T W 2 (s.1 11 8 + x7) .leaf ρ) : dl_i70 lo x a0 k h f s Ts y (rf_snoc G W) x5 (x7 + 1) (t.1 11 6) t := fun _ => by
  obtain ⟨i1, ⟨i2, i3, i4, i5, i6⟩, i7, i8, ⟨i9, i10⟩, ⟨i11, i12⟩, i13, i14, i15, i16, i17⟩ := hi trivial
  have e7 : (x7 + 1).toNat = x7.toNat + 1 := by omega
  have hd := dz_sm_drop hT
  have hat := dz_as_at y Ts
  have hmem := dz_sm_mem hT
  have hy := qx_at_pos y
  refine ⟨i1, ⟨i2, i3, by omega, by omega, ?_⟩, by rw [← rf_snoc_assoc]; exact hTr, dz_fr_t hfr i8 (fun _ q => q), ⟨by omega, by rw [e7]; omega⟩, ⟨by omega, by rw [e7]; omega⟩, fun j hj => (h17 j (by omega)).trans (i13 j hj), fun i T' hT' => ?_, fun hk g hg => ?_, i16, fun _ i g hg => ?_⟩
  · rw [rf_len_snoc, rf_nx_len hn hW]
    omega
  · have hl : i < Ts.length := (List.getElem?_eq_some_iff.mp hT').1
    rw [h17 _ (by omega)]
    exact dz_is_F hF (i14 i T' hT')
  · rw [e7, dz_bs_s, show (x7.toNat : Int) = x7 by omega]
    rw [i1, hat] at hg
    exact dz_av_app.mpr ⟨_, _, rfl, i15 hk g (by rw [i1, hat]; exact hg), dz_av_one hn (hs hk g (by omega))⟩
  · have lG : (vx_el G).length = x7.toNat := by
      rw [vx_el_len]
      omega
    have eW : vx_el W = [W] := by
      cases W with
      | leaf => exact absurd rfl hW
      | inner wj wq wu wF wX =>
        have hX : wX = .leaf := hn
        subst hX
        rfl
    rw [vl_el_snoc, eW] at hg
    by_cases q : i < (vx_el G).length
    · rw [List.getElem?_append_left q] at hg
      exact dl_gs_mono hF hV1 h17 i17 trivial i g hg
    · rw [List.getElem?_append_right (by omega)] at hg
      have e0 : i - (vx_el G).length = 0 := by
        apply Classical.byContradiction
        intro z
        rw [List.getElem?_eq_none (by rw [List.length_singleton]; omega)] at hg
        cases hg
      rw [e0] at hg
      have eg : W = g := by simpa using hg
      have ei : i = x7.toNat := by omega
      have ex : (i : Int) = x7 := by omega
      subst eg
      rw [ex]
      refine ⟨hg1, hg2, fun k3 => ⟨(hg3 k3).1, fun T' hT' ρ hρ => ?_⟩⟩
      rw [ei, hT] at hT'
      rw [← Option.some.inj hT']
      exact (hg3 k3).2 ρ hρ

theorem st_dl_cp {sL : Nat} {sx : Nat → Int32} (hsL : sL ≤ 3072) (m : Nat) (hm5 : m ≤ 5) {d : Nat} (hd : 3 ≤ d) (h_rec : ∀ m' : Nat, m = m' + 1 → ∀ (lo : Int) (x : qx_T) (a0 a1 a2 k h : Int) (f : rf_N) (s : sx_S) (R : Int → sx_S → Prop), cx_I s → k ≠ 0 → dz_T lo s (rf_n a0.toNat k h f .leaf) a0 → dx_is s x a1 → 2 ≤ s.1 8 2 → qx_at x ≤ m' → 0 ≤ a2 → a2 + ((m' : Nat) : Int) ≤ 5 → (rf_len f : Int) + 1 ≤ s.1 11 6 → s.1 11 6 + 2 * (qx_at x : Int) ≤ 1026 → s.1 11 8 + (qx_at x : Int) ≤ 513 → (∀ z t W, cx_I t → cx_F [(11, 17)] s t → dl_cp lo x k h f s t z W → R z t) → sx_C sL sx (d + 1) 97 [.inr (.inl 11), .inl a0, .inl a1, .inl a2] s R) : ∀ (lo : Int) (x : qx_T) (a0 a1 a2 k h : Int) (f : rf_N) (s : sx_S) (R : Int → sx_S → Prop), cx_I s → k ≠ 0 → dz_T lo s (rf_n a0.toNat k h f .leaf) a0 → dx_is s x a1 → 2 ≤ s.1 8 2 → qx_at x ≤ m → 0 ≤ a2 → a2 + ((m : Nat) : Int) ≤ 5 → (rf_len f : Int) + 1 ≤ s.1 11 6 → s.1 11 6 + 2 * (qx_at x : Int) ≤ 1026 → s.1 11 8 + (qx_at x : Int) ≤ 513 → (∀ z t W, cx_I t → cx_F [(11, 17)] s t → dl_cp lo x k h f s t z W → R z t) → sx_C sL sx (d + 2) 97 [.inr (.inl 11), .inl a0, .inl a1, .inl a2] s R := by
  intro lo x a0 a1 a2 k h f s R hI hk hT hx h2 hm ha2 ham hlen hnd hvr hK
  have h0 := hI.fld 11 6 (by decide) rfl
  have h8 := hI.fld 11 8 (by decide) rfl
  have hxp := qx_at_pos x
  obtain ⟨z1, z2, z3, z4⟩ := dz_T_a0 hT
  refine sx_methL (wr := true) (n := 400) (n' := 400) (stop := [(15, [0, 1, 3, 4, 5, 6, 7]), (70, [0, 1, 3, 4, 5, 7]), (110, [0, 1, 3, 4, 5, 7, 8, 9]), (158, [0, 4, 7, 8])]) (fun nn pc ls u => cx_I u ∧ cx_F [(11, 17)] s u ∧ ((pc = 15 ∧ ∃ (x5 x6 : Int) (Ts : List qx_T) (y : qx_T), ls = [(0, .inr (.inl 11)), (1, .inl a0), (3, .inl a2), (4, .inl (s.1 11 8)), (5, .inl x5), (6, .inl x6), (7, .inl x5)] ∧ dz_i15 x s Ts y x5 x6 u ∧ nn = (1000 - x5).toNat) ∨ (pc = 70 ∧ ∃ (x5 x7 : Int) (Ts : List qx_T) (y : qx_T) (G : rf_N), ls = [(0, .inr (.inl 11)), (1, .inl a0), (3, .inl a2), (4, .inl (s.1 11 8)), (5, .inl x5), (7, .inl x7)] ∧ dl_i70 lo x a0 k h f s Ts y G x5 x7 (u.1 11 6) u ∧ nn = (500 - 2 * x7).toNat) ∨ (pc = 110 ∧ ∃ (x5 x7 x8 x9 : Int) (Ts : List qx_T) (y : qx_T) (G : rf_N), ls = [(0, .inr (.inl 11)), (1, .inl a0), (3, .inl a2), (4, .inl (s.1 11 8)), (5, .inl x5), (7, .inl x7), (8, .inl x8), (9, .inl x9)] ∧ x7 < x5 ∧ dl_i70 lo x a0 k h f s Ts y G x5 x7 x8 u ∧ dz_T x8 u (rf_n x8.toNat 2 (s.1 11 8 + x7) .leaf .leaf) x8 ∧ u.1 11 6 = x8 + 1 ∧ (∀ j ∈ rf_idx (rf_n a0.toNat k h (rf_snoc f G) .leaf), (j : Int) < x8) ∧ (x9 = 1 ∧ k ≠ 3 ∧ a2 < 4 ∨ x9 = 0 ∧ k = 3) ∧ nn = (499 - 2 * x7).toNat) ∨ (pc = 158 ∧ ∃ (x7 x8 : Int) (Ts : List qx_T) (y : qx_T) (L : Nat) (G W : rf_N), ls = [(0, .inr (.inl 11)), (4, .inl (s.1 11 8)), (7, .inl x7), (8, .inl x8)] ∧ dl_i158 lo x a0 k h f s Ts y L G W x7 x8 u ∧ nn = (x8 + 1).toNat))) hsL (e := eX7_complete) rfl ?_ ?_
  · exact w_cp hI ⟨_, hI, cx_F_refl _ _, Or.inl ⟨rfl, 0, a1, [], x, rfl, fun _ => ⟨rfl, hx, ⟨rfl, by omega⟩, rfl, by omega, dz_fr_refl _ _, fun _ _ => rfl, fun i T q => absurd q (by simp)⟩, rfl⟩⟩
  · rintro nn pc ls u ⟨uI, uF, ⟨rfl, x5, x6, Ts, y, rfl, i15, rfl⟩ | ⟨rfl, x5, x7, Ts, y, G, rfl, i70, rfl⟩ | ⟨rfl, x5, x7, x8, x9, Ts, y, G, rfl, hlt, i70, hP, hN, hdis, h9, rfl⟩ | ⟨rfl, x7, x8, Ts, y, L, G, W, rfl, i158, rfl⟩⟩
    · obtain ⟨i1, i2, ⟨i3, i4⟩, i5, i6, i7, i8, i9⟩ := i15 trivial
      have u8 : u.1 8 2 = s.1 8 2 := congrFun (uF.same 8 rfl).1 2
      have hr := dx_rng i2 (by omega)
      have hr8 := uI.fld 8 2 (by decide) rfl
      have hat := dz_as_at y Ts
      rw [← i1] at hat
      have hsl := dz_sm_len Ts
      have hy := qx_at_pos y
      refine w_cp_15 (c_dz_isA hsL (d + 1) (by omega)) (c_dz_from hsL (d + 1) (by omega)) (c_dz_to hsL (d + 1) (by omega)) (c_dz_variable2 hsL (d + 1) (by omega)) uI ?_ (by omega) (by omega) ?_ ?_
      · by_cases q : x6 < 2
        · omega
        · obtain ⟨T, w, e, _, _⟩ := dz_arr i2 (by omega) (by omega)
          have e2 : qx_at y = qx_at T + qx_at w := by rw [e]; rfl
          have := qx_at_pos T
          have := qx_at_pos w
          omega
      · intro zz15
        have hy1 : qx_at y = 1 := by
          rcases zz15 with q | q | q
          · omega
          · exact dl_at1 i2 (Or.inl q)
          · exact dl_at1 i2 (Or.inr q)
        refine ⟨(500 - 2 * (0 : Int)).toNat, by omega, uI, uF, Or.inr (Or.inl ⟨rfl, x5, 0, Ts, y, .leaf, rfl, fun _ => ⟨i1, ⟨i3, by omega, by omega, by omega, rfl⟩, ?_, dz_fr_w i7 (fun _ _ => trivial), ⟨by omega, ?_⟩, ⟨by omega, ?_⟩, i8, i9, fun _ g _ => rfl, hy1, fun _ i g hg => absurd hg (by simp [vx_el])⟩, rfl⟩)⟩
        · rw [rf_snoc_leaf]
          exact dz_T_fr hT i7 (fun _ _ => trivial)
        · show _ + 2 * ((dz_sm Ts : Nat) : Int) ≤ _
          omega
        · show _ + ((dz_sm Ts : Nat) : Int) ≤ _
          omega
      · intro q1 q2 q3 t t1 t2 t3 w hw
        obtain ⟨T, w', e, e1, e2⟩ := dz_arr i2 q2 q3
        obtain ⟨v1, v2, v3, v4, v5⟩ := t3 trivial
        have tF := cx_F_step t2 rfl uF
        refine ⟨(1000 - (x5 + 1)).toNat, by omega, t1, tF, Or.inl ⟨rfl, x5 + 1, w, Ts ++ [T], w', rfl, fun _ => ⟨?_, ?_, ⟨?_, by omega⟩, by omega, by omega, dz_fr_t (dz_fr_V1 t3) i7 (fun _ q => q), fun j hj => (v5 j (by omega)).trans (i8 j hj), fun i T' hT' => ?_⟩, rfl⟩⟩
        · rw [i1, e, dz_as_snoc]
        · rw [hw, (t2.same 10 rfl).2]
          exact dz_is_F t2 e2
        · rw [List.length_append, List.length_singleton]
          omega
        · rcases Nat.lt_or_ge i Ts.length with q | q
          · rw [List.getElem?_append_left q] at hT'
            rw [v5 _ (by omega)]
            exact dz_is_F t2 (i9 i T' hT')
          · have hl : i < (Ts ++ [T]).length := (List.getElem?_eq_some_iff.mp hT').1
            rw [List.length_append, List.length_singleton] at hl
            have ei : i = Ts.length := by omega
            subst ei
            have eT : T' = T := by simpa using hT'.symm
            rw [eT, show (s.1 11 8 + (Ts.length : Int)).toNat = (u.1 11 8).toNat by omega, v4]
            exact dz_is_F t2 e1
    · obtain ⟨i1, ⟨i2, i3, i4, i5, i6⟩, i7, i8, ⟨i9, i10⟩, ⟨i11, i12⟩, i13, i14, i15, i16, i17⟩ := i70 trivial
      obtain ⟨y1, y2, y3, y4⟩ := dz_T_a0 i7
      have hat := dz_as_at y Ts
      rw [← i1] at hat
      have hsl := dz_sm_len Ts
      have hy := qx_at_pos y
      have hlt := dz_T_lt i7
      refine w_cp_70 (c_dz_kind hsL (d + 1) (by omega)) (c_dz_node2 hsL (d + 1) (by omega)) uI ⟨y1, y2⟩ (by omega) (by omega) (by omega) (by omega) ?_ ?_ ?_ ?_
      · intro q
        obtain ⟨T, hTT⟩ := dz_get (l := Ts) (j := x7.toNat) (by omega)
        have := dz_sm_drop hTT
        have := qx_at_pos T
        omega
      · intro q
        subst q
        refine ⟨_, ?_, uI, uF, Or.inr (Or.inr (Or.inr ⟨rfl, a0, x7 - 1, Ts, y, Ts.length, G, rf_n a0.toNat k h (rf_snoc f G) .leaf, rfl, fun _ => ⟨⟨by omega, by omega, by omega⟩, ⟨by omega, by omega⟩, nofun, i7, i8, ?_, ?_, ⟨by omega, by omega, by omega⟩, i13, ?_, ⟨i1, i16, rfl⟩, by rw [i2]; exact i17, i14, by omega, ?_⟩, rfl⟩))⟩
        · omega
        · rw [show ((Ts.length : Int) - 1 - (x7 - 1)).toNat = 0 by omega]
          rfl
        · rw [show ((Ts.length : Int) - 1 - (x7 - 1)).toNat = 0 by omega, List.drop_eq_nil_of_le (by rw [dz_bs_len]; omega)]
          rfl
        · rw [show Ts.length = x7.toNat by omega]
          exact i15
        · rw [List.drop_eq_nil_of_le (by rw [dz_bs_len]; omega)]
          rfl
      · intro q q3 q4 t t1 t2 t3
        obtain ⟨n1, n2, n3, n4, n5⟩ := t3 trivial
        refine ⟨(499 - 2 * x7).toNat, by omega, t1, cx_F_step t2 rfl uF, Or.inr (Or.inr (Or.inl ⟨rfl, x5, x7, u.1 11 6, 1, Ts, y, G, rfl, q, fun _ => ⟨i1, ⟨i2, i3, i4, i5, i6⟩, dz_T_fr i7 (dz_fr_N1 t3) hlt, dz_fr_t (dz_fr_N1 t3) i8 (fun j hj => by omega), ⟨i9, i10⟩, ⟨by omega, by omega⟩, fun j hj => (congrFun n3 j).trans (i13 j hj), fun i T' hT' => ?_, i15, i16, dl_gs_mono t2 (by omega) (fun j _ => congrFun n3 j) i17⟩, dz_T_new t3 (by omega) (by omega) (by omega), n1, hlt, Or.inl ⟨rfl, by omega, q4⟩, rfl⟩))⟩
        rw [n3]
        exact dz_is_F t2 (i14 i T' hT')
      · intro q q3 t t1 t2 t3
        obtain ⟨n1, n2, n3, n4, n5⟩ := t3 trivial
        have k3 : k = 3 := by omega
        refine ⟨(499 - 2 * x7).toNat, by omega, t1, cx_F_step t2 rfl uF, Or.inr (Or.inr (Or.inl ⟨rfl, x5, x7, u.1 11 6, 0, Ts, y, G, rfl, q, fun _ => ⟨i1, ⟨i2, i3, i4, i5, i6⟩, dz_T_fr i7 (dz_fr_N1 t3) hlt, dz_fr_t (dz_fr_N1 t3) i8 (fun j hj => by omega), ⟨i9, i10⟩, ⟨by omega, by omega⟩, fun j hj => (congrFun n3 j).trans (i13 j hj), fun i T' hT' => ?_, i15, i16, dl_gs_mono t2 (by omega) (fun j _ => congrFun n3 j) i17⟩, dz_T_new t3 (by omega) (by omega) (by omega), n1, hlt, Or.inr ⟨rfl, k3⟩, rfl⟩))⟩
        rw [n3]
        exact dz_is_F t2 (i14 i T' hT')
    · obtain ⟨i1, ⟨i2, i3, i4, i5, i6⟩, i7, i8, ⟨i9, i10⟩, ⟨i11, i12⟩, i13, i14, i15, i16, i17⟩ := i70 trivial
      obtain ⟨y1, y2, y3, y4⟩ := dz_T_a0 i7
      have hat := dz_as_at y Ts
      rw [← i1] at hat
      have hy := qx_at_pos y
      obtain ⟨T, hTT⟩ := dz_get (l := Ts) (j := x7.toNat) (by omega)
      have hdr := dz_sm_drop hTT
      have hTm := dz_sm_mem hTT
      have hdl := dz_sm_len (Ts.drop (x7.toNat + 1))
      rw [List.length_drop] at hdl
      have hTp := qx_at_pos T
      have ub := uI.fld 11 6 (by decide) rfl
      have hTi := i14 _ T hTT
      rw [show ((x7.toNat : Nat) : Int) = x7 by omega] at hTi
      have u8 : u.1 8 2 = s.1 8 2 := congrFun (uF.same 8 rfl).1 2
      have hl1 : (rf_len (rf_snoc f G) : Int) + 1 ≤ x8 := by rw [rf_len_snoc]; omega
      rcases h9 with ⟨rfl, k3, a4⟩ | ⟨rfl, k3⟩
      · obtain ⟨m', rfl⟩ : ∃ m', m = m' + 1 := ⟨m - 1, by omega⟩
        refine w_cp_110a (Zc := fun w t => cx_I t ∧ cx_F [(11, 17)] u t ∧ ∃ W, dl_cp x8 T 2 (s.1 11 8 + x7) .leaf u t w W) (Za := fun t => cx_I t ∧ cx_F [(11, 17)] s t ∧ ∃ G', dl_i70 lo x a0 k h f s Ts y G' x5 (x7 + 1) (t.1 11 6) t) (c_dz_vt hsL (d + 1) (by omega)) uI (by omega) (by omega) (by omega) ?_ ?_ ?_
        · intro K hK'
          exact h_rec m' rfl x8 T x8 _ (a2 + 1) 2 (s.1 11 8 + x7) .leaf u K uI (by omega) hP hTi (by omega) (by omega) (by omega) (by omega) (by show (0 : Int) + 1 ≤ _; omega) (by omega) (by omega) (fun z t W t1 t2 t3 => hK' z t ⟨t1, t2, W, t3⟩)
        · rintro w t ⟨t1, t2, W, t3⟩ K hK'
          obtain ⟨c1, c2, c3, ⟨c4, c5, c6⟩, c7, c8, c9⟩ := t3 trivial
          have hge := (c2 trivial).2.2.2.1
          have htu : u.1 11 6 ≤ t.1 11 6 := (c3 trivial).1
          have hT2 := dz_T_fr i7 c3 hdis
          refine c_dz_append hsL (d + 1) (by omega) lo a0 w k h (rf_snoc f G) W t K t1 hk hT2 (dz_T_lo c2 (by omega)) c1 (fun j hj hj' => ?_) (by omega) (fun v v1 v2 ⟨v3, v4⟩ v5 v6 => ?_)
          · have e1 := hdis j hj
            have e2 := hge j hj'
            omega
          · refine hK' v ⟨v1, cx_F_step v2 rfl (cx_F_step t2 rfl uF), _, dl_i70_s i70 hlt hTT (cx_F_step v2 rfl t2) (by omega) c1 (c2 trivial).2.2.2.2 v5 (dz_fr_t v6 (dz_fr_w c3 (fun j hj => by omega)) (fun j hj hj' => ?_)) (by rw [v3]; omega) (by rw [v3]; omega) (by rw [v3]; omega) (by rw [v3]; omega) (fun j hj => by rw [v4]; exact c7 j hj) (fun _ g hg => ?_) ⟨u.1 11 8, v.1 11 8, by omega, Int.le_refl _, by rw [v3]; exact (c9 trivial).1 (u.1 11 8) (Int.le_refl _) (fun _ => trivial)⟩ (fun q => absurd q k3) (fun _ => ⟨(c9 trivial).2.2.2, fun ρ hρ => vl_c1_mono (dl_TV_mono v2 (by rw [v3]; exact Int.le_refl _) (fun j _ => by rw [v4])) ((c9 trivial).2.1 (by decide) ρ (fun z hz => by have := hρ z hz; omega))⟩)⟩
            · have := (hT2 trivial).2.2.2.1 j hj'
              omega
            · obtain ⟨g', rfl⟩ : ∃ g', g = g' + 1 := ⟨g - 1, by omega⟩
              exact (c8 trivial).2 g' [] rfl (by omega) (by show 0 + _ ≤ 5; omega) rfl
        · rintro t ⟨t1, t2, G', t3⟩
          exact ⟨(500 - 2 * (x7 + 1)).toNat, by omega, t1, t2, Or.inr (Or.inl ⟨rfl, x5, x7 + 1, Ts, y, G', rfl, t3, rfl⟩)⟩
      · refine w_cp_110b (Za := fun t => cx_I t ∧ cx_F [(11, 17)] s t ∧ ∃ G', dl_i70 lo x a0 k h f s Ts y G' x5 (x7 + 1) (t.1 11 6) t) (by omega) ?_ ?_
        · intro K hK'
          have hge := (hP trivial).2.2.2.1
          refine c_dz_append hsL (d + 1) (by omega) lo a0 x8 k h (rf_snoc f G) _ u K uI hk i7 (dz_T_lo hP (by omega)) nofun (fun j hj hj' => ?_) (by omega) (fun v v1 v2 ⟨v3, v4⟩ v5 v6 => ?_)
          · have e1 := hdis j hj
            have e2 := hge j hj'
            omega
          · refine hK' v ⟨v1, cx_F_step v2 rfl uF, _, dl_i70_s (W := rf_n x8.toNat 2 (s.1 11 8 + x7) .leaf .leaf) i70 hlt hTT v2 (by omega) nofun rfl v5 (dz_fr_w v6 (fun j hj hj' => ?_)) (by rw [v3]; omega) (by rw [v3]; omega) (by rw [v3]; omega) (by rw [v3]; omega) (fun j hj => by rw [v4]) (fun q => absurd k3 q) ⟨s.1 11 8 + x5, v.1 11 8, Int.le_refl _, Int.le_refl _, ⟨Or.inr (Or.inl ⟨by show (2 : Int) ≠ 0; decide, by show (2 : Int) ≠ 3; decide, trivial⟩), trivial⟩⟩ (fun _ => ⟨_, rfl⟩) (fun q => absurd k3 q)⟩
            have := (i7 trivial).2.2.2.1 j hj'
            omega
        · rintro t ⟨t1, t2, G', t3⟩
          exact ⟨(500 - 2 * (x7 + 1)).toNat, by omega, t1, t2, Or.inr (Or.inl ⟨rfl, x5, x7 + 1, Ts, y, G', rfl, t3, rfl⟩)⟩
    · obtain ⟨⟨j1, j2, j3⟩, ⟨j4, j5⟩, j6, j7, j8, j9, j10, ⟨j11, j12, j13⟩, j14, j15, ⟨j16, j17, j18⟩, j19, j20, j21, j22⟩ := i158 trivial
      have ub := uI.fld 11 6 (by decide) rfl
      have hw : 0 ≤ x7 ∧ x7 < u.1 11 6 ∧ lo ≤ x7 := by
        cases W with
        | leaf => exact absurd rfl j6
        | inner wj wk wu wf wx =>
          obtain ⟨⟨⟨q1, q2⟩, _⟩, _, _, q3, _⟩ := j7 trivial
          have := q3 _ List.mem_cons_self
          omega
      refine w_cp_158 (c_dz_lambda hsL (d + 1) (by omega)) uI (by omega) (by omega) (by omega) (by omega) ?_ ?_
      · intro e
        subst e
        refine hK _ _ W uI uF (fun _ => ⟨j6, j7, j8, ⟨by omega, j12, j13⟩, j14, ?_, ?_⟩)
        · rw [show ((L : Int) - 1 - -1).toNat = L by omega] at j9 j10
          exact dz_sem_mk hk j9 j10 j3 j2 j15
        · subst j18
          exact dl_fin (a0 := a0.toNat) (by omega) j16 j17 hk j3 j19 j20 j21 j22
      · intro hx8 t t1 t2 t3
        obtain ⟨n1, n2, n3, n4, n5⟩ := t3 trivial
        refine ⟨_, ?_, t1, cx_F_step t2 rfl uF, Or.inr (Or.inr (Or.inr ⟨rfl, _, x8 - 1, Ts, y, L, G, rf_n (u.1 11 6).toNat 0 (s.1 11 8 + x8) W .leaf, rfl, fun _ => ⟨⟨j1, j2, j3⟩, ⟨by omega, by omega⟩, nofun, dz_T_lam t3 (by omega) (by omega) (by omega) j7, dz_fr_t (dz_fr_N1 t3) j8 (fun j hj => by omega), ?_, ?_, ⟨by omega, by omega, by omega⟩, fun j hj => (congrFun n3 j).trans (j14 j hj), j15, ⟨j16, j17, j18⟩, dl_gs_mono t2 (by omega) (fun j _ => congrFun n3 j) j19, fun i T hT' => by rw [n3]; exact dz_is_F t2 (j20 i T hT'), by omega, ?_⟩, rfl⟩))⟩
        · omega
        · rw [show ((L : Int) - 1 - (x8 - 1)).toNat = ((L : Int) - 1 - x8).toNat + 1 by omega]
          exact ⟨rfl, j9⟩
        · rw [show ((L : Int) - 1 - (x8 - 1)).toNat = ((L : Int) - 1 - x8).toNat + 1 by omega]
          show (s.1 11 8 + x8) :: rf_rf _ W = _
          rw [j10, show (x8 - 1 + 1).toNat = x8.toNat by omega, dz_bs_drop _ (show x8.toNat < L by omega), show (x8 + 1).toNat = x8.toNat + 1 by omega, show ((x8.toNat : Nat) : Int) = x8 by omega]
        · rw [show (x8 - 1 + 1).toNat = x8.toNat by omega, dz_bs_drop _ (show x8.toNat < L by omega), show ((x8.toNat : Nat) : Int) = x8 by omega]
          refine ⟨_, W, rfl, ?_⟩
          rw [show x8.toNat + 1 = (x8 + 1).toNat by omega]
          exact j22
theorem c_dl_cp {sL : Nat} {sx : Nat → Int32} (hsL : sL ≤ 3072) : ∀ m : Nat, m ≤ 5 → ∀ d, 5 + m ≤ d → ∀ (lo : Int) (x : qx_T) (a0 a1 a2 k h : Int) (f : rf_N) (s : sx_S) (R : Int → sx_S → Prop), cx_I s → k ≠ 0 → dz_T lo s (rf_n a0.toNat k h f .leaf) a0 → dx_is s x a1 → 2 ≤ s.1 8 2 → qx_at x ≤ m → 0 ≤ a2 → a2 + ((m : Nat) : Int) ≤ 5 → (rf_len f : Int) + 1 ≤ s.1 11 6 → s.1 11 6 + 2 * (qx_at x : Int) ≤ 1026 → s.1 11 8 + (qx_at x : Int) ≤ 513 → (∀ z t W, cx_I t → cx_F [(11, 17)] s t → dl_cp lo x k h f s t z W → R z t) → sx_C sL sx d 97 [.inr (.inl 11), .inl a0, .inl a1, .inl a2] s R := by
  intro m
  induction m with
  | zero =>
    intro hm d hd
    obtain ⟨d, rfl⟩ : ∃ e, d = e + 2 := ⟨d - 2, by omega⟩
    exact st_dl_cp hsL 0 hm (by omega) (fun m' h => absurd h (by omega))
  | succ m ih =>
    intro hm d hd
    obtain ⟨d, rfl⟩ : ∃ e, d = e + 2 := ⟨d - 2, by omega⟩
    exact st_dl_cp hsL (m + 1) hm (by omega) (fun m' h => by
      obtain rfl : m = m' := by omega
      exact ih (by omega) (d + 1) (by omega))
end
section
/-! ===== the desk's checker: what it works on; what a NAME means ===== -/
/-- the checker's surroundings -/
def dz_E (b : Nat → Int) (n : Int) (C M : List (Int × qx_T)) (s : sx_S) : Prop := True → dz_TN b n s ∧ dz_DL 19 20 21 s C ∧ dz_DL 22 23 24 s M ∧ (dx_TI s ∧ 2 ≤ s.1 8 2) ∧ (∀ q ∈ C, qx_at q.2 ≤ 5) ∧ (∀ q ∈ M, qx_at q.2 ≤ 5)
/-- what is bound: tokens, numbers, types -/
def dz_SC (s : sx_S) (Γ : List (Int × qx_T)) (ρ : List Int) : Prop := True → ((Γ.length : Int) = s.1 18 9 ∧ ρ.length = Γ.length) ∧ (∀ k : Nat, k < Γ.length → ∃ e, Γ[Γ.length - 1 - k]? = some e ∧ s.2.1 27 k = e.1 ∧ (0 ≤ e.1 ∧ e.1 < s.1 2 5) ∧ s.2.1 28 k = px_id ρ k ∧ dx_is s e.2 (s.2.1 17 (px_id ρ k).toNat)) ∧ (∀ w ∈ ρ, 0 ≤ w ∧ w < s.1 11 8) ∧ px_so ρ ∧ (∀ q ∈ Γ, qx_at q.2 ≤ 5)
/-- what the checker's work leaves; nodes below lo stay -/
def dz_G (lo : Int) (s t : sx_S) : Prop := True → (cx_I t ∧ cx_F [(8, 18), (27, 28)] s t) ∧ dz_f [11, 12, 13, 14] s t ∧ (dx_TI t ∧ dx_tu s t) ∧ dz_fr (fun j => (j : Int) < lo) s t ∧ (s.1 11 8 ≤ t.1 11 8 ∧ ∀ j : Nat, (j : Int) < s.1 11 8 → t.2.1 17 j = s.2.1 17 j) ∧ (∀ k : Nat, (k : Int) < s.1 18 9 → t.2.1 27 k = s.2.1 27 k ∧ t.2.1 28 k = s.2.1 28 k)
theorem dz_G_t {lo : Int} {s t u : sx_S} (h2 : dz_G lo t u) (h1 : dz_G lo s t) : dz_G lo s u := fun _ => by
  obtain ⟨⟨a1, a2⟩, a3, ⟨a4, a5⟩, a6, ⟨a7, a8⟩, a9⟩ := h1 trivial
  obtain ⟨⟨b1, b2⟩, b3, ⟨b4, b5⟩, b6, ⟨b7, b8⟩, b9⟩ := h2 trivial
  have e9 : t.1 18 9 = s.1 18 9 := a3 9 rfl
  refine ⟨⟨b1, cx_F_step b2 rfl a2⟩, fun k hk => (b3 k hk).trans (a3 k hk), ⟨b4, dx_tu_trans b5 a5⟩, dz_fr_t b6 a6 (fun _ q => q), ⟨by omega, fun j hj => (b8 j (by omega)).trans (a8 j hj)⟩, fun k hk => ?_⟩
  obtain ⟨c1, c2⟩ := a9 k hk
  obtain ⟨d1, d2⟩ := b9 k (by omega)
  exact ⟨d1.trans c1, d2.trans c2⟩
theorem dz_G_lo {lo lo' : Int} {s t : sx_S} (h : dz_G lo s t) (hl : lo' ≤ lo) : dz_G lo' s t := fun _ => by
  obtain ⟨a1, a3, a4, a6, a7, a9⟩ := h trivial
  exact ⟨a1, a3, a4, dz_fr_w a6 (fun j hj => by omega), a7, a9⟩
theorem dx_TI_c {s t : sx_S} (h : dx_TI s) (h8 : t.1 8 2 = s.1 8 2) (h9 : t.2.1 9 = s.2.1 9) (h10 : t.2.1 10 = s.2.1 10) : dx_TI t := fun i j a1 a2 a3 a4 a5 a6 => by
  rw [h9] at a5
  rw [h10] at a6
  rw [h8] at a2 a4
  exact h i j a1 a2 a3 a4 a5 a6
theorem dx_tu_c {s t : sx_S} (h8 : t.1 8 2 = s.1 8 2) (h9 : t.2.1 9 = s.2.1 9) (h10 : t.2.1 10 = s.2.1 10) : dx_tu s t := fun j => ⟨by omega, fun _ => by rw [h9, h10]; exact ⟨rfl, rfl⟩⟩
/-- work on terms alone -/
theorem dz_G_11 {lo : Int} {s t : sx_S} (hI : cx_I t) (hF : cx_F [(11, 17)] s t) (hT : dx_TI s) (hfr : dz_fr (fun j => (j : Int) < lo) s t) (hv : s.1 11 8 ≤ t.1 11 8 ∧ ∀ j : Nat, (j : Int) < s.1 11 8 → t.2.1 17 j = s.2.1 17 j) : dz_G lo s t := fun _ => by
  have e8 : t.1 8 2 = s.1 8 2 := congrFun (hF.same 8 rfl).1 2
  refine ⟨⟨hI, cx_F_step hF rfl (cx_F_refl _ _)⟩, fun k _ => congrFun (hF.same 18 rfl).1 k, ⟨dx_TI_c hT e8 (hF.same 9 rfl).2 (hF.same 10 rfl).2, dx_tu_c e8 (hF.same 9 rfl).2 (hF.same 10 rfl).2⟩, hfr, hv, fun k _ => ?_⟩
  rw [(hF.same 27 rfl).2, (hF.same 28 rfl).2]
  exact ⟨rfl, rfl⟩
/-- work on types alone -/
theorem dz_G_8 {lo : Int} {s t : sx_S} (hI : cx_I t) (hF : cx_F [(8, 10), (18, 18)] s t) (hf : dz_f [11, 12, 13, 14] s t) (hT : dx_TI t) (hu : dx_tu s t) : dz_G lo s t := fun _ => by
  have e6 : t.1 11 6 = s.1 11 6 := congrFun (hF.same 11 rfl).1 6
  have e8 : t.1 11 8 = s.1 11 8 := congrFun (hF.same 11 rfl).1 8
  refine ⟨⟨hI, cx_F_step hF rfl (cx_F_refl _ _)⟩, hf, ⟨hT, hu⟩, fun _ => ⟨by omega, fun j _ => ?_⟩, ⟨by omega, fun j _ => ?_⟩, fun k _ => ?_⟩
  · rw [(hF.same 12 rfl).2, (hF.same 13 rfl).2, (hF.same 14 rfl).2, (hF.same 15 rfl).2, (hF.same 16 rfl).2]
    exact ⟨rfl, rfl, rfl, rfl, rfl⟩
  · rw [(hF.same 17 rfl).2]
  · rw [(hF.same 27 rfl).2, (hF.same 28 rfl).2]
    exact ⟨rfl, rfl⟩
theorem dz_f_uf {s : sx_S} {k : Nat} {v : Int} (hk : [11, 12, 13, 14].contains k = true) : dz_f [11, 12, 13, 14] s (sx_uf s.1 18 k v, s.2) := fun k' hk' => by
  show sx_uf s.1 18 k v 18 k' = _
  rw [sx_uf_if]
  refine if_neg (fun c => ?_)
  rw [c.2, hk] at hk'
  exact absurd hk' (by decide)
theorem dz_G_uf {lo : Int} {s : sx_S} {k : Nat} {v : Int} (hI : cx_I (sx_uf s.1 18 k v, s.2)) (hT : dx_TI s) (hk : [11, 12, 13, 14].contains k = true) : dz_G lo s (sx_uf s.1 18 k v, s.2) := dz_G_8 hI (cx_F_uf rfl (cx_F_refl _ _)) (dz_f_uf hk) (fun i j => hT i j) (fun j => dx_tu_refl s j)
theorem dz_G_I {lo : Int} {s t : sx_S} (h : dz_G lo s t) : cx_I t := (h trivial).1.1
theorem dz_G_T {lo : Int} {s t : sx_S} (h : dz_G lo s t) : dx_TI t := (h trivial).2.2.1.1
theorem dz_G_is {lo : Int} {s t : sx_S} {x : qx_T} {z : Int} (h : dz_G lo s t) (hx : dx_is s x z) : dx_is t x z := dx_is_up hx (h trivial).2.2.1.2
theorem dz_DL_G {lo : Int} {s t : sx_S} {o p q : Nat} {L : List (Int × qx_T)} (h : dz_G lo s t) (ho : cx_outb [(8, 18), (27, 28)] o = true) (hp : cx_outb [(8, 18), (27, 28)] p = true) (hq : cx_outb [(8, 18), (27, 28)] q = true) (hL : dz_DL o p q s L) : dz_DL o p q t L := fun _ => by
  obtain ⟨l1, l2⟩ := hL trivial
  have hF := (h trivial).1.2
  refine ⟨by rw [(hF.same o ho).1]; exact l1, fun k hk => ?_⟩
  obtain ⟨e, e1, e2, e3, e4⟩ := l2 k hk
  refine ⟨e, e1, by rw [(hF.same p hp).2]; exact e2, by rw [(hF.same 2 rfl).1]; exact e3, ?_⟩
  rw [(hF.same q hq).2]
  exact dz_G_is h e4
theorem dz_E_G {lo : Int} {b : Nat → Int} {n : Int} {C M : List (Int × qx_T)} {s t : sx_S} (hE : dz_E b n C M s) (h : dz_G lo s t) : dz_E b n C M t := fun _ => by
  obtain ⟨e1, e2, e3, ⟨e4, e5⟩, e6, e7⟩ := hE trivial
  have hF := (h trivial).1.2
  have hu := ((h trivial).2.2.1.2 0).1
  refine ⟨fun _ => ?_, dz_DL_G h rfl rfl rfl e2, dz_DL_G h rfl rfl rfl e3, ⟨dz_G_T h, by omega⟩, e6, e7⟩
  obtain ⟨a1, a2, a3⟩ := e1 trivial
  exact ⟨(hF.same 3 rfl).2.trans a1, (congrFun (hF.same 2 rfl).1 4).trans a2, px_TK_F hF rfl rfl rfl rfl a3⟩
theorem dz_SC_G {lo : Int} {Γ : List (Int × qx_T)} {ρ : List Int} {s t : sx_S} (hS : dz_SC s Γ ρ) (h : dz_G lo s t) : dz_SC t Γ ρ := fun _ => by
  obtain ⟨⟨s1, s2⟩, s3, s4, s5, s6⟩ := hS trivial
  obtain ⟨⟨a1, a2⟩, a3, ⟨a4, a5⟩, a6, ⟨a7, a8⟩, a9⟩ := h trivial
  have e9 : t.1 18 9 = s.1 18 9 := a3 9 rfl
  refine ⟨⟨by omega, s2⟩, fun k hk => ?_, fun w hw => ?_, s5, s6⟩
  · obtain ⟨e, e1, e2, e3, e4, e5⟩ := s3 k hk
    obtain ⟨c1, c2⟩ := a9 k (by omega)
    have hw := s4 _ (px_id_mem (ρ := ρ) (l := k) (by omega))
    refine ⟨e, e1, c1.trans e2, by rw [(a2.same 2 rfl).1]; exact e3, c2.trans e4, ?_⟩
    rw [a8 _ (by omega)]
    exact dz_G_is h e5
  · have := s4 w hw
    omega

theorem px_vr_e {SN : Int → Int → Prop} {a : Int} : ∀ {Γ : List (Int × qx_T)} {k : Nat} {x : qx_T}, px_vr SN Γ a k x → ∃ q ∈ Γ, q.2 = x
  | [], _, _, h => h.elim
  | q :: Γ, _, _, h => by
    rcases h with ⟨_, _, h⟩ | ⟨_, h⟩
    · exact ⟨q, List.mem_cons_self, h.symm⟩
    · obtain ⟨e, e1, e2⟩ := px_vr_e h
      exact ⟨e, List.mem_cons_of_mem _ e1, e2⟩
theorem px_cf_e {SN : Int → Int → Prop} {a : Int} : ∀ {Γ : List (Int × qx_T)} {k : Nat} {x : qx_T}, px_cf SN Γ a k x → ∃ q, Γ[k]? = some q ∧ q.2 = x
  | [], _, _, h => h.elim
  | q :: Γ, _, _, h => by
    rcases h with ⟨_, h1, h⟩ | ⟨_, j, h1, h⟩
    · rw [h1]
      exact ⟨q, rfl, h.symm⟩
    · obtain ⟨e, e1, e2⟩ := px_cf_e h
      rw [h1]
      exact ⟨e, e1, e2⟩
/-- what meaning leaves: a new node -/
def dz_mn (b : Nat → Int) (n : Int) (C M Γ : List (Int × qx_T)) (ρ : List Int) (a0 : Int) (s t : sx_S) (k h : Int) (i : Nat) (u : qx_T) : Prop := True → px_hd (px_SN b n) C M Γ a0 k i u ∧ ((k = 2 → h = px_id ρ i) ∧ (k ≠ 2 → h = (i : Int))) ∧ (0 ≤ h ∧ 1 ≤ k) ∧ dz_G (s.1 11 6) s t ∧ dx_is t u (t.1 18 12) ∧ (t.1 11 6 = s.1 11 6 + 1 ∧ t.1 11 8 = s.1 11 8 ∧ t.1 8 2 = s.1 8 2 ∧ t.1 18 11 = s.1 18 11) ∧ dz_T (s.1 11 6) t (rf_n (s.1 11 6).toNat k h .leaf .leaf) (s.1 11 6) ∧ qx_at u ≤ 5
theorem dz_mn_mk {b : Nat → Int} {n : Int} {C M Γ : List (Int × qx_T)} {ρ : List Int} {a0 v k h : Int} {s t : sx_S} {i : Nat} {u : qx_T} (hI : cx_I s) (hT : dx_TI s) (h2 : 2 ≤ s.1 8 2) (hd : px_hd (px_SN b n) C M Γ a0 k i u) (hi : (k = 2 → h = px_id ρ i) ∧ (k ≠ 2 → h = (i : Int))) (hh : 0 ≤ h ∧ 1 ≤ k) (hv : dx_is s u v) (h5 : qx_at u ≤ 5) (t1 : cx_I t) (t2 : cx_F [(11, 17)] (sx_uf s.1 18 12 v, s.2) t) (t3 : dz_N1 k h (-1) (sx_uf s.1 18 12 v, s.2) t) : dz_mn b n C M Γ ρ a0 s t k h i u := fun _ => by
  have h0 := hI.fld 11 6 (by decide) rfl
  have h8 := hI.fld 8 2 (by decide) rfl
  have hr := dx_rng hv h2
  have hI' : cx_I (sx_uf s.1 18 12 v, s.2) := cx_I_uf rfl rfl hI (by omega) (by omega)
  have g1 : dz_G (s.1 11 6) s (sx_uf s.1 18 12 v, s.2) := dz_G_uf hI' hT rfl
  have hT' : dx_TI (sx_uf s.1 18 12 v, s.2) := dz_G_T g1
  obtain ⟨n1, n2, n3, _⟩ := t3 trivial
  have n1' : t.1 11 6 = s.1 11 6 + 1 := n1
  have n2' : t.1 11 8 = s.1 11 8 := n2
  have n3' : t.2.1 17 = s.2.1 17 := n3
  have g2 : dz_G (s.1 11 6) (sx_uf s.1 18 12 v, s.2) t := dz_G_11 t1 t2 hT' (dz_fr_N1 t3) ⟨by show s.1 11 8 ≤ _; omega, fun j _ => congrFun n3' j⟩
  have e12 : t.1 18 12 = v := (congrFun (t2.same 18 rfl).1 12).trans (px_us s.1 18 12 v)
  have hT0 := dz_T_new t3 h0.1 (by omega) hh.1
  refine ⟨hd, hi, hh, dz_G_t g2 g1, ?_, ⟨n1', n2', congrFun (t2.same 8 rfl).1 2, congrFun (t2.same 18 rfl).1 11⟩, hT0, h5⟩
  rw [e12]
  exact dz_G_is g2 (dz_G_is g1 hv)

theorem w_dz_ntC {CALL : sx_Ca} {sL : Nat} {sx : Nat → Int32} {Q : Nat → sx_L → sx_S → Prop} {R : Int → sx_S → Prop} {s : sx_S} {a0 : Int} (hI : cx_I s) (p0 : (-2147483648 ≤ a0 ∧ a0 ≤ 2147483647)) (hK : ∀ z : Int, (0 ≤ a0 → a0 < s.1 19 2 → z = s.2.1 21 a0.toNat) → R z s) : sx_wp true sL sx eX4_type CALL [] Q R 400 0 (sx_argsF 0 [.inr (.inl 19), .inl a0]) [] s := by
  repeat' (first | (with_reducible (rintro _ rfl)) | (with_reducible intro _) | (refine And.intro ?_ ?_) | (refine hK _ ?_))
  all_goals (try dsimp only)
  repeat' (first | (with_reducible assumption) | ((with_reducible (change cx_I (sx_uf _ _ _ _, _))); refine cx_I_uf rfl rfl ?_ ?_ ?_) | ((with_reducible (change cx_I (_, sx_ua _ _ _ _, _))); refine cx_I_ua rfl rfl ?_ ?_ ?_) | ((with_reducible (change cx_I (_, sx_ua _ 16 _ _, _))); refine cx_I_ari ?_ ?_ ?_) | ((with_reducible (change cx_I (sx_uf _ 11 6 _, _))); refine cx_I_ufA rfl ?_ ?_ ?_ ?_) | (with_reducible exact cx_F_refl _ _) | ((with_reducible (change cx_F _ _ (sx_uf _ _ _ _, _))); refine cx_F_uf rfl ?_) | ((with_reducible (change cx_F _ _ (_, sx_ua _ _ _ _, _))); refine cx_F_ua rfl ?_) | ((with_reducible (change cx_I (_, sx_cpy _ _ _ _ _ _, _))); refine cx_I_cpy rfl rfl rfl (by decide) ?_) | ((with_reducible (change cx_F _ _ (_, sx_cpy _ _ _ _ _ _, _))); refine cx_F_cpy rfl ?_) | ((with_reducible (change cx_F _ _ _)); refine cx_F_step (by assumption) rfl ?_) | fail)
  all_goals (try dsimp only at *)
  all_goals (first | trivial | omega | rfl | (intros; omega) | (intros; rfl) | skip)

theorem c_dz_ntC {sL : Nat} {sx : Nat → Int32} (hsL : sL ≤ 3072) (d : Nat) (hd : 2 ≤ d) : ∀ (a0 : Int) (s : sx_S) (K : Int → sx_S → Prop), cx_I s → (-2147483648 ≤ a0 ∧ a0 ≤ 2147483647) → (∀ z : Int, (0 ≤ a0 → a0 < s.1 19 2 → z = s.2.1 21 a0.toNat) → K z s) → sx_C sL sx d 56 [.inr (.inl 19), .inl a0] s K := by
  intro a0 s K hI p0 hK
  obtain ⟨d, rfl⟩ : ∃ e, d = e + 2 := ⟨d - 2, by omega⟩
  exact sx_meth (wr := true) (n := 400) hsL (e := eX4_type) rfl (w_dz_ntC (Q := fun _ _ _ => False)  hI p0 hK)

theorem w_dz_ntM {CALL : sx_Ca} {sL : Nat} {sx : Nat → Int32} {Q : Nat → sx_L → sx_S → Prop} {R : Int → sx_S → Prop} {s : sx_S} {a0 : Int} (hI : cx_I s) (p0 : (-2147483648 ≤ a0 ∧ a0 ≤ 2147483647)) (hK : ∀ z : Int, (0 ≤ a0 → a0 < s.1 22 2 → z = s.2.1 24 a0.toNat) → R z s) : sx_wp true sL sx eX4_type CALL [] Q R 400 0 (sx_argsF 0 [.inr (.inl 22), .inl a0]) [] s := by
  repeat' (first | (with_reducible (rintro _ rfl)) | (with_reducible intro _) | (refine And.intro ?_ ?_) | (refine hK _ ?_))
  all_goals (try dsimp only)
  repeat' (first | (with_reducible assumption) | ((with_reducible (change cx_I (sx_uf _ _ _ _, _))); refine cx_I_uf rfl rfl ?_ ?_ ?_) | ((with_reducible (change cx_I (_, sx_ua _ _ _ _, _))); refine cx_I_ua rfl rfl ?_ ?_ ?_) | ((with_reducible (change cx_I (_, sx_ua _ 16 _ _, _))); refine cx_I_ari ?_ ?_ ?_) | ((with_reducible (change cx_I (sx_uf _ 11 6 _, _))); refine cx_I_ufA rfl ?_ ?_ ?_ ?_) | (with_reducible exact cx_F_refl _ _) | ((with_reducible (change cx_F _ _ (sx_uf _ _ _ _, _))); refine cx_F_uf rfl ?_) | ((with_reducible (change cx_F _ _ (_, sx_ua _ _ _ _, _))); refine cx_F_ua rfl ?_) | ((with_reducible (change cx_I (_, sx_cpy _ _ _ _ _ _, _))); refine cx_I_cpy rfl rfl rfl (by decide) ?_) | ((with_reducible (change cx_F _ _ (_, sx_cpy _ _ _ _ _ _, _))); refine cx_F_cpy rfl ?_) | ((with_reducible (change cx_F _ _ _)); refine cx_F_step (by assumption) rfl ?_) | fail)
  all_goals (try dsimp only at *)
  all_goals (first | trivial | omega | rfl | (intros; omega) | (intros; rfl) | skip)

theorem c_dz_ntM {sL : Nat} {sx : Nat → Int32} (hsL : sL ≤ 3072) (d : Nat) (hd : 2 ≤ d) : ∀ (a0 : Int) (s : sx_S) (K : Int → sx_S → Prop), cx_I s → (-2147483648 ≤ a0 ∧ a0 ≤ 2147483647) → (∀ z : Int, (0 ≤ a0 → a0 < s.1 22 2 → z = s.2.1 24 a0.toNat) → K z s) → sx_C sL sx d 56 [.inr (.inl 22), .inl a0] s K := by
  intro a0 s K hI p0 hK
  obtain ⟨d, rfl⟩ : ∃ e, d = e + 2 := ⟨d - 2, by omega⟩
  exact sx_meth (wr := true) (n := 400) hsL (e := eX4_type) rfl (w_dz_ntM (Q := fun _ _ _ => False)  hI p0 hK)

theorem w_mg {CALL : sx_Ca} {sL : Nat} {sx : Nat → Int32} {Q : Nat → sx_L → sx_S → Prop} {R : Int → sx_S → Prop} {s : sx_S} {a0 : Int} (hI : cx_I s) (hQ : ∀ x2, x2 = s.1 18 9 - 1 → Q 15 [(0, .inr (.inl 18)), (1, .inl a0), (2, .inl x2)] s) : sx_wp true sL sx eX1_meaning CALL [(15, [0, 1, 2])] Q R 400 0 (sx_argsF 0 [.inr (.inl 18), .inl a0]) [] s := by
  have h9 := hI.fld 18 9 (by decide) rfl
  repeat' (first | (with_reducible (rintro _ rfl)) | (with_reducible intro _) | (refine And.intro ?_ ?_) | (refine hQ _ ?_))
  all_goals (try dsimp only at *)
  all_goals (first | trivial | assumption | omega | (simp only [sx_w_t] at *; omega) | skip)
theorem w_mg_15 {CALL : sx_Ca} {sL : Nat} {sx : Nat → Int32} {Q : Nat → sx_L → sx_S → Prop} {R : Int → sx_S → Prop} {b : Nat → Int} {n : Int} {C M : List (Int × qx_T)} (h_dx_sn : ∀ (a0 a1 : Int) (s : sx_S) (K : Int → sx_S → Prop), cx_I s → (0 ≤ a0 ∧ a0 ≤ 239) → (0 ≤ a1 ∧ a1 ≤ 239) → (a0 < s.1 2 5 ∧ a1 < s.1 2 5) → (dz_TN b n s) → (∀ z : Int, (z = 0 ∨ z = 1) → (z ≠ 0 → px_SN b n a0 a1) → (z = 0 → ¬ px_SN b n a0 a1) → K z s) → CALL 105 [.inr (.inl 2), .inl a0, .inl a1] s K) (h_vt : ∀ (a0 : Int) (s : sx_S) (K : Int → sx_S → Prop), cx_I s → (-2147483648 ≤ a0 ∧ a0 ≤ 2147483647) → (∀ z : Int, (0 ≤ a0 → a0 < s.1 11 8 → z = s.2.1 17 a0.toNat) → K z s) → CALL 87 [.inr (.inl 11), .inl a0] s K) (h_node : ∀ (a0 a1 : Int) (s : sx_S) (R : Int → sx_S → Prop), cx_I s → s.1 11 6 < 1024 → (-2147483648 ≤ a0 ∧ a0 ≤ 2147483647) → (-2147483648 ≤ a1 ∧ a1 ≤ 2147483647) → (∀ t, cx_I t → cx_F [(11, 17)] s t → dz_N1 a0 a1 (-1) s t → R (s.1 11 6) t) → CALL 88 [.inr (.inl 11), .inl a0, .inl a1] s R) (h_dx_findC : ∀ (a0 : Int) (s : sx_S) (K : Int → sx_S → Prop), cx_I s → (0 ≤ a0 ∧ a0 ≤ 239) → (dz_TN b n s) → (a0 < s.1 2 5) → (dz_DL 19 20 21 s C) → (∀ z : Int, (-1 ≤ z ∧ z ≤ 7) → (z = -1 → px_nv (px_SN b n) C a0) → (z ≠ -1 → (0 ≤ z ∧ z < s.1 19 2) ∧ ∃ x, px_cf (px_SN b n) C a0 z.toNat x) → K z s) → CALL 54 [.inr (.inl 19), .inr (.inl 2), .inl a0] s K) (h_dx_findM : ∀ (a0 : Int) (s : sx_S) (K : Int → sx_S → Prop), cx_I s → (0 ≤ a0 ∧ a0 ≤ 239) → (dz_TN b n s) → (a0 < s.1 2 5) → (dz_DL 22 23 24 s M) → (∀ z : Int, (-1 ≤ z ∧ z ≤ 4) → (z = -1 → px_nv (px_SN b n) M a0) → (z ≠ -1 → (0 ≤ z ∧ z < s.1 22 2) ∧ ∃ x, px_cf (px_SN b n) M a0 z.toNat x) → K z s) → CALL 54 [.inr (.inl 22), .inr (.inl 2), .inl a0] s K) (h_dz_ntC : ∀ (a0 : Int) (s : sx_S) (K : Int → sx_S → Prop), cx_I s → (-2147483648 ≤ a0 ∧ a0 ≤ 2147483647) → (∀ z : Int, (0 ≤ a0 → a0 < s.1 19 2 → z = s.2.1 21 a0.toNat) → K z s) → CALL 56 [.inr (.inl 19), .inl a0] s K) (h_dz_ntM : ∀ (a0 : Int) (s : sx_S) (K : Int → sx_S → Prop), cx_I s → (-2147483648 ≤ a0 ∧ a0 ≤ 2147483647) → (∀ z : Int, (0 ≤ a0 → a0 < s.1 22 2 → z = s.2.1 24 a0.toNat) → K z s) → CALL 56 [.inr (.inl 22), .inl a0] s K) {s : sx_S} {a0 x2 : Int} (hI : cx_I s) (p0 : 0 ≤ a0 ∧ a0 ≤ 239) (p1 : a0 < s.1 2 5) (hTN : dz_TN b n s) (hC : dz_DL 19 20 21 s C) (hM : dz_DL 22 23 24 s M) (hN : s.1 11 6 < 1024) (q2 : -1 ≤ x2 ∧ x2 ≤ 20) (q27 : 0 ≤ x2 → 0 ≤ s.2.1 27 x2.toNat ∧ s.2.1 27 x2.toNat < s.1 2 5 ∧ s.2.1 27 x2.toNat ≤ 239) (q28 : 0 ≤ x2 → 0 ≤ s.2.1 28 x2.toNat ∧ s.2.1 28 x2.toNat < s.1 11 8) (hQ : 0 ≤ x2 → ¬ px_SN b n (s.2.1 27 x2.toNat) a0 → ∀ w, w = x2 - 1 → Q 15 [(0, .inr (.inl 18)), (1, .inl a0), (2, .inl w)] s) (hV : 0 ≤ x2 → px_SN b n (s.2.1 27 x2.toNat) a0 → ∀ z t, z = s.1 11 6 → cx_I t → cx_F [(11, 17)] (sx_uf s.1 18 12 (s.2.1 17 (s.2.1 28 x2.toNat).toNat), s.2) t → dz_N1 2 (s.2.1 28 x2.toNat) (-1) (sx_uf s.1 18 12 (s.2.1 17 (s.2.1 28 x2.toNat).toNat), s.2) t → R z t) (hKC : x2 < 0 → ∀ i : Int, (0 ≤ i ∧ i < s.1 19 2) → (∃ x, px_cf (px_SN b n) C a0 i.toNat x) → ∀ z t, z = s.1 11 6 → cx_I t → cx_F [(11, 17)] (sx_uf s.1 18 12 (s.2.1 21 i.toNat), s.2) t → dz_N1 1 i (-1) (sx_uf s.1 18 12 (s.2.1 21 i.toNat), s.2) t → R z t) (hKM : x2 < 0 → px_nv (px_SN b n) C a0 → ∀ i : Int, (0 ≤ i ∧ i < s.1 22 2) → (∃ x, px_cf (px_SN b n) M a0 i.toNat x) → ∀ z t, z = s.1 11 6 → cx_I t → cx_F [(11, 17)] (sx_uf s.1 18 12 (s.2.1 24 i.toNat), s.2) t → dz_N1 3 i (-1) (sx_uf s.1 18 12 (s.2.1 24 i.toNat), s.2) t → R z t) (hKN : x2 < 0 → px_nv (px_SN b n) C a0 → px_nv (px_SN b n) M a0 → R (-1) s) : sx_wp true sL sx eX1_meaning CALL [(15, [0, 1, 2])] Q R 400 15 [(0, .inr (.inl 18)), (1, .inl a0), (2, .inl x2)] [] s := by
  have h9 := hI.fld 18 9 (by decide) rfl
  have hc := hI.fld 19 2 (by decide) rfl
  have hm := hI.fld 22 2 (by decide) rfl
  have h28 := hI.arr 28 (by decide) rfl x2.toNat
  have h17 := hI.arr 17 (by decide) rfl (s.2.1 28 x2.toNat).toNat
  have hIu : ∀ v : Int, -2147483648 ≤ v → v ≤ 2147483647 → cx_I (sx_uf s.1 18 12 v, s.2) := fun v a b => cx_I_uf rfl rfl hI a b
  have zzn : ∀ (k h v : Int) (K : Int → sx_S → Prop), (-2147483648 ≤ k ∧ k ≤ 2147483647) → (-2147483648 ≤ h ∧ h ≤ 2147483647) → -2147483648 ≤ v → v ≤ 2147483647 → (∀ z t, z = s.1 11 6 → cx_I t → cx_F [(11, 17)] (sx_uf s.1 18 12 v, s.2) t → dz_N1 k h (-1) (sx_uf s.1 18 12 v, s.2) t → K z t) → CALL 88 [.inr (.inl 11), .inl k, .inl h] (sx_uf s.1 18 12 v, s.2) K := fun k h v K a1 a2 a3 a4 hK => h_node k h _ K (hIu v a3 a4) hN a1 a2 (fun t t1 t2 t3 => hK _ t rfl t1 t2 t3)
  have zzV : 0 ≤ x2 → ∀ K : Int → sx_S → Prop, K (s.2.1 17 (s.2.1 28 x2.toNat).toNat) s → CALL 87 [.inr (.inl 11), .inl (s.2.1 28 x2.toNat)] s K := fun a K hK => h_vt _ _ _ hI (by omega) (fun z z1 => by
    have q := q28 a
    rw [z1 q.1 q.2]
    exact hK)
  by_cases hx : 0 ≤ x2
  · have q27' := q27 hx
    have q28' := q28 hx
    have zzV' := zzV hx
    have hQ' := hQ hx
    have hV' := hV hx
    clear hKC hKM hKN hQ hV zzV q27 q28 h_vt h_node h_dx_findC h_dx_findM h_dz_ntC h_dz_ntM
    repeat' (first | (with_reducible (rintro _ rfl)) | (with_reducible intro _) | (refine And.intro ?_ ?_) | (refine h_dx_sn _ _ _ _ ?_ ?_ ?_ ?_ ?_ ?_) | (refine zzV' _ ?_) | (refine zzn _ _ _ _ ?_ ?_ ?_ ?_ ?_))
    all_goals (try dsimp only at *)
    all_goals (first | trivial | assumption | omega | (exfalso; omega) | (refine hQ' ?_ _ ?_ <;> first | omega | (apply_assumption <;> omega) | (simp only [sx_w_t]; omega)) | (refine hIu _ ?_ ?_ <;> omega) | (refine hV' ?_ _ _ ?_ ?_ ?_ ?_ <;> first | assumption | omega | (apply_assumption <;> omega)) | skip)
  · have hKC' := hKC (by omega)
    have hKM' := hKM (by omega)
    have hKN' := hKN (by omega)
    have zzC : ∀ (i : Int) (K : Int → sx_S → Prop), (0 ≤ i ∧ i < s.1 19 2) → K (s.2.1 21 i.toNat) s → CALL 56 [.inr (.inl 19), .inl i] s K := fun i K a hK => h_dz_ntC i s K hI (by omega) (fun z z1 => by
      rw [z1 a.1 a.2]
      exact hK)
    have zzM : ∀ (i : Int) (K : Int → sx_S → Prop), (0 ≤ i ∧ i < s.1 22 2) → K (s.2.1 24 i.toNat) s → CALL 56 [.inr (.inl 22), .inl i] s K := fun i K a hK => h_dz_ntM i s K hI (by omega) (fun z z1 => by
      rw [z1 a.1 a.2]
      exact hK)
    have zz21 := fun j => hI.arr 21 (by decide) rfl j
    have zz24 := fun j => hI.arr 24 (by decide) rfl j
    clear hKC hKM hKN hQ hV zzV q27 q28 h_vt h_node h_dx_sn h_dz_ntC h_dz_ntM
    have zzfC : ∀ K : Int → sx_S → Prop, (px_nv (px_SN b n) C a0 → K (-1) s) → (∀ i : Int, (0 ≤ i ∧ i < s.1 19 2) → (∃ x, px_cf (px_SN b n) C a0 i.toNat x) → K i s) → CALL 54 [.inr (.inl 19), .inr (.inl 2), .inl a0] s K := fun K k1 k2 => h_dx_findC a0 s K hI p0 hTN p1 hC (fun z z1 z2 z3 => by
      by_cases e : z = -1
      · rw [e]
        exact k1 (z2 e)
      · exact k2 z (z3 e).1 (z3 e).2)
    have zzfM : ∀ K : Int → sx_S → Prop, (px_nv (px_SN b n) M a0 → K (-1) s) → (∀ i : Int, (0 ≤ i ∧ i < s.1 22 2) → (∃ x, px_cf (px_SN b n) M a0 i.toNat x) → K i s) → CALL 54 [.inr (.inl 22), .inr (.inl 2), .inl a0] s K := fun K k1 k2 => h_dx_findM a0 s K hI p0 hTN p1 hM (fun z z1 z2 z3 => by
      by_cases e : z = -1
      · rw [e]
        exact k1 (z2 e)
      · exact k2 z (z3 e).1 (z3 e).2)
    clear h_dx_findC h_dx_findM
    repeat' (first | (with_reducible (rintro _ rfl)) | (with_reducible intro _) | (refine And.intro ?_ ?_) | (refine zzfC _ ?_ ?_) | (refine zzfM _ ?_ ?_) | (refine zzC _ _ ?_ ?_) | (refine zzM _ _ ?_ ?_) | (refine zzn _ _ _ _ ?_ ?_ ?_ ?_ ?_))
    all_goals (try dsimp only at *)
    all_goals (first | trivial | assumption | omega | (exfalso; omega) | (exact (zz21 _).1) | (exact (zz21 _).2) | (exact (zz24 _).1) | (exact (zz24 _).2) | (exact hKN' (by assumption) (by assumption)) | (refine hIu _ ?_ ?_ <;> first | exact (zz21 _).1 | exact (zz21 _).2 | exact (zz24 _).1 | exact (zz24 _).2) | (show R _ _; apply hKC' <;> first | assumption | rfl) | (show R _ _; apply hKM' <;> first | assumption | rfl) | skip)

theorem c_dz_meaning {sL : Nat} {sx : Nat → Int32} (hsL : sL ≤ 3072) (d : Nat) (hd : 5 ≤ d) (b : Nat → Int) (n : Int) (C M : List (Int × qx_T)) : ∀ (a0 : Int) (Γ : List (Int × qx_T)) (ρ : List Int) (s : sx_S) (R : Int → sx_S → Prop), cx_I s → (0 ≤ a0 ∧ a0 < s.1 2 5) → dz_E b n C M s → dz_SC s Γ ρ → s.1 11 6 < 1024 → (∀ t k h i u, cx_I t → dz_mn b n C M Γ ρ a0 s t k h i u → R (s.1 11 6) t) → ((∀ k i u, ¬ px_hd (px_SN b n) C M Γ a0 k i u) → R (-1) s) → sx_C sL sx d 32 [.inr (.inl 18), .inl a0] s R := by
  intro a0 Γ ρ s R hI p0 hE hS hN hK hX
  obtain ⟨e1, e2, e3, ⟨e4, e5⟩, e6, e7⟩ := hE trivial
  obtain ⟨⟨s1, s2⟩, s3, s4, s5, s6⟩ := hS trivial
  have hm := (((e1 trivial).2.2) trivial).1
  have h9 := hI.fld 18 9 (by decide) rfl
  have hl1 := (e2 trivial).1
  have hl2 := (e3 trivial).1
  obtain ⟨d, rfl⟩ : ∃ e, d = e + 2 := ⟨d - 2, by omega⟩
  refine sx_methL (wr := true) (n := 400) (n' := 400) (stop := [(15, [0, 1, 2])]) (fun nn pc ls u => pc = 15 ∧ u = s ∧ ∃ x2 : Int, ls = [(0, .inr (.inl 18)), (1, .inl a0), (2, .inl x2)] ∧ (-1 ≤ x2 ∧ x2 < s.1 18 9) ∧ px_s1 (px_SN b n) Γ a0 x2 ∧ nn = (x2 + 1).toNat) hsL (e := eX1_meaning) rfl ?_ ?_
  · exact w_mg hI (fun x2 e => ⟨_, rfl, rfl, x2, rfl, by omega, px_s1_0 (by omega), rfl⟩)
  · rintro nn pc ls u ⟨rfl, rfl, x2, rfl, i1, i2, rfl⟩
    have hx : 0 ≤ x2 → ∃ e, Γ[Γ.length - 1 - x2.toNat]? = some e ∧ u.2.1 27 x2.toNat = e.1 ∧ (0 ≤ e.1 ∧ e.1 < u.1 2 5) ∧ u.2.1 28 x2.toNat = px_id ρ x2.toNat ∧ dx_is u e.2 (u.2.1 17 (px_id ρ x2.toNat).toNat) := fun q => s3 x2.toNat (by omega)
    have hnv : x2 < 0 → px_nv (px_SN b n) Γ a0 := fun q e he => by
      obtain ⟨i, hi⟩ := List.mem_iff_getElem?.mp he
      have hl : i < Γ.length := (List.getElem?_eq_some_iff.mp hi).1
      exact i2 (Γ.length - 1 - i) (by omega) (by omega) e (by rw [show Γ.length - 1 - (Γ.length - 1 - i) = i by omega]; exact hi)
    refine w_mg_15 (c_dx_sn hsL (d + 1) (by omega) b n) (c_dz_vt hsL (d + 1) (by omega)) (c_dz_node hsL (d + 1) (by omega)) (c_dx_findC hsL (d + 1) (by omega) b n C) (c_dx_findM hsL (d + 1) (by omega) b n M) (c_dz_ntC hsL (d + 1) (by omega)) (c_dz_ntM hsL (d + 1) (by omega)) hI (by omega) p0.2 e1 e2 e3 hN (by omega) (fun q => ?_) (fun q => ?_) (fun q hq w hw => ?_) (fun q hq z t hz t1 t2 t3 => ?_) (fun q i hi hf z t hz t1 t2 t3 => ?_) (fun q hc i hi hf z t hz t1 t2 t3 => ?_) (fun q hc hm' => ?_)
    · obtain ⟨e, a1, a2, a3, a4, a5⟩ := hx q
      omega
    · obtain ⟨e, a1, a2, a3, a4, a5⟩ := hx q
      rw [a4]
      exact s4 _ (px_id_mem (by omega))
    · subst hw
      refine ⟨_, ?_, rfl, rfl, x2 - 1, rfl, by omega, px_s1_up i2 q rfl (fun e he => ?_), rfl⟩
      · omega
      · obtain ⟨e', a1, a2, _⟩ := hx q
        rw [he] at a1
        cases a1
        rw [← a2]
        exact hq
    · obtain ⟨e, a1, a2, a3, a4, a5⟩ := hx q
      rw [a2] at hq
      have hvr := px_vr_x i2 q (by omega) a1 hq
      obtain ⟨q', c1, c2⟩ := px_vr_e hvr
      have hw := s4 _ (px_id_mem (ρ := ρ) (l := x2.toNat) (by omega))
      rw [hz]
      rw [a4] at t2 t3
      exact hK t 2 (px_id ρ x2.toNat) x2.toNat e.2 t1 (dz_mn_mk hI e4 e5 (Or.inl ⟨rfl, hvr⟩) ⟨fun _ => rfl, fun q => absurd rfl q⟩ (by omega) a5 (by rw [← c2]; exact s6 _ c1) t1 t2 t3)
    · obtain ⟨x, hf⟩ := hf
      obtain ⟨q', c1, c2⟩ := px_cf_e hf
      obtain ⟨e, a1, a2, a3, a4⟩ := dz_DL_tok e2 hi.1 hi.2
      rw [c1] at a1
      cases a1
      rw [hz]
      exact hK t 1 i i.toNat x t1 (dz_mn_mk hI e4 e5 (Or.inr (Or.inl ⟨rfl, hnv q, hf⟩)) ⟨fun h => absurd h (by decide), fun _ => (by omega)⟩ (by omega) (by rw [← c2]; exact a4) (by rw [← c2]; exact e6 _ (List.mem_of_getElem? c1)) t1 t2 t3)
    · obtain ⟨x, hf⟩ := hf
      obtain ⟨q', c1, c2⟩ := px_cf_e hf
      obtain ⟨e, a1, a2, a3, a4⟩ := dz_DL_tok e3 hi.1 hi.2
      rw [c1] at a1
      cases a1
      rw [hz]
      exact hK t 3 i i.toNat x t1 (dz_mn_mk hI e4 e5 (Or.inr (Or.inr ⟨rfl, hnv q, hc, hf⟩)) ⟨fun h => absurd h (by decide), fun _ => (by omega)⟩ (by omega) (by rw [← c2]; exact a4) (by rw [← c2]; exact e7 _ (List.mem_of_getElem? c1)) t1 t2 t3)
    · refine hX (fun k i u' h => ?_)
      rcases h with ⟨_, h⟩ | ⟨_, _, h⟩ | ⟨_, _, _, h⟩
      · exact px_vr_nv h (hnv q)
      · exact px_cf_nv h hc
      · exact px_cf_nv h hm'
end
section
/-! ===== long forms in the desk's memory ===== -/
theorem vl_tm_mono {SN : Int → Int → Prop} {C M : List (Int × qx_T)} {TV TV' : Int → qx_T → Prop} {AR : Nat → List Int} (hT : ∀ v T, TV v T → TV' v T) : ∀ {n : px_N}, (∀ {W : rf_N} {Γ : List (Int × qx_T)} {ρ : List Int} {x : qx_T}, (vl_tm SN C M TV AR n).1 W Γ ρ x → (vl_tm SN C M TV' AR n).1 W Γ ρ x) ∧ (∀ {F : rf_N} {Γ : List (Int × qx_T)} {ρ : List Int} {U L : qx_T}, (vl_tm SN C M TV AR n).2 F Γ ρ U L → (vl_tm SN C M TV' AR n).2 F Γ ρ U L)
  | .leaf => ⟨fun h => h.elim, fun h => h⟩
  | .inner g q u0 f n => by
    have hf := vl_tm_mono (SN := SN) (C := C) (M := M) (AR := AR) hT (n := f)
    have hn := vl_tm_mono (SN := SN) (C := C) (M := M) (AR := AR) hT (n := n)
    have one : ∀ {W : rf_N} {Γ : List (Int × qx_T)} {ρ : List Int} {x : qx_T}, (vl_tm SN C M TV AR (.inner g q u0 f n)).1 W Γ ρ x → (vl_tm SN C M TV' AR (.inner g q u0 f n)).1 W Γ ρ x := by
      intro W Γ ρ x h
      rcases h with ⟨g0, j, v, F, B, h1, ⟨h2, h2a, h2b, h2c⟩, h3, h4⟩ | ⟨g0, k, i, U, h0, h1, h2, h3⟩
      · exact Or.inl ⟨g0, j, v, F, B, h1, ⟨h2, h2a, hT _ _ h2b, h2c⟩, hf.1 h3, h4⟩
      · refine Or.inr ⟨g0, k, i, U, h0, h1, h2, ?_⟩
        rcases h3 with ⟨k3, F, r1, r2⟩ | ⟨k3, ls, r1, r2, r3, r4⟩
        · exact Or.inl ⟨k3, F, hf.2 r1, vl_c1_mono hT r2⟩
        · exact Or.inr ⟨k3, ls, r1, r2, r3, vl_c3_mono hT r4⟩
    refine ⟨one, fun {F Γ ρ U L} h => ?_⟩
    obtain ⟨W, X, A, U1, a, a3, a4, a5⟩ := vl_tm_c.mp h
    exact vl_tm_c.mpr ⟨W, X, A, U1, a, a3, one a4, hn.2 a5⟩
/-- one ARG more in a row -/
theorem vl_tm_snoc {SN : Int → Int → Prop} {C M : List (Int × qx_T)} {TV : Int → qx_T → Prop} {AR : Nat → List Int} {Γ : List (Int × qx_T)} {ρ : List Int} {g : Nat} {q : Int × qx_T} {f' : px_N} {W : rf_N} {A w : qx_T} (hW : vx_sg W) (h : (vl_tm SN C M TV AR (.inner g q () f' .leaf)).1 W Γ ρ A) : ∀ {r : px_N} {F : rf_N} {U : qx_T}, (vl_tm SN C M TV AR r).2 F Γ ρ U (qx_a A w) → (vl_tm SN C M TV AR (px_snoc r (.inner g q () f' .leaf))).2 (rf_snoc F W) Γ ρ U w
  | .leaf, F, U, ⟨h1, h2⟩ => by
    subst h1
    refine vl_tm_c.mpr ⟨W, .leaf, A, w, ⟨hW, ?_⟩, h2, h, rfl, rfl⟩
    obtain ⟨j, k, hh, G, rfl⟩ := hW
    rfl
  | .inner g1 q1 u1 f1 n1, F, U, hr => by
    obtain ⟨W1, X, A1, U1, ⟨a1, a2⟩, a3, a4, a5⟩ := vl_tm_c.mp hr
    refine vl_tm_c.mpr ⟨W1, rf_snoc X W, A1, U1, ⟨a1, ?_⟩, a3, a4, vl_tm_snoc hW h a5⟩
    obtain ⟨j, k, hh, G, rfl⟩ := a1
    rw [a2]
    rfl
theorem dl_ar_snoc {AR : Nat → List Int} {g : rf_N} : ∀ {f : rf_N}, dl_ar AR (rf_snoc f g) → dl_ar AR f ∧ dl_ar AR g
  | .leaf, h => ⟨trivial, h⟩
  | .inner j q u F X, ⟨h1, h2, h3⟩ => ⟨⟨h1, h2, (dl_ar_snoc h3).1⟩, (dl_ar_snoc h3).2⟩
theorem vl_c1_ar {TV : Int → qx_T → Prop} {AR : Nat → List Int} : ∀ {x : qx_T} {W : rf_N} {k h : Int} {f : rf_N} {ρ : List Int}, vl_c1 TV x W k h f ρ → k ≠ 3 → dl_ar AR W → dl_ar AR f
  | .leaf, W, k, h, f, ρ, ⟨j, e⟩, k3, ha => by
    rw [e] at ha
    exact ha.2.1 k3
  | .inner n b _ x y, W, k, h, f, ρ, hc, k3, ha => by
    rcases hc with ⟨_, j, e⟩ | ⟨_, j, v, g, W', e, _, _, _, h5⟩
    · rw [e] at ha
      exact ha.2.1 k3
    · rw [e] at ha
      exact (dl_ar_snoc (vl_c1_ar h5 k3 (ha.2.1 vx_03))).1
theorem dl_TV_G {lo : Int} {s t : sx_S} (h : dz_G lo s t) : ∀ v T, dl_TV s v T → dl_TV t v T := fun v T ⟨h1, h2, h3⟩ => by
  obtain ⟨_, _, _, _, ⟨g1, g2⟩, _⟩ := h trivial
  refine ⟨h1, by omega, ?_⟩
  rw [g2 v.toNat (by omega)]
  exact dz_G_is h h3
/-- what is made of a TERM; of a row of ARGs -/
def dl_mt (b : Nat → Int) (n : Int) (C M : List (Int × qx_T)) (lo : Int) (t : sx_S) (W : rf_N) (nn : px_N) (Γ : List (Int × qx_T)) (ρ : List Int) (x : qx_T) : Prop := True → dl_nb lo (t.1 11 8) W ∧ vx_sg W ∧ ∀ AR, dl_ar AR W → (vl_tm (px_SN b n) C M (dl_TV t) AR nn).1 W Γ ρ x
def dl_mr (b : Nat → Int) (n : Int) (C M : List (Int × qx_T)) (lo : Int) (t : sx_S) (F : rf_N) (r : px_N) (Γ : List (Int × qx_T)) (ρ : List Int) (U L : qx_T) : Prop := True → dl_nb lo (t.1 11 8) F ∧ ∀ AR, dl_ar AR F → (vl_tm (px_SN b n) C M (dl_TV t) AR r).2 F Γ ρ U L
theorem dl_nb_mono {lo hi lo' hi' : Int} {W : rf_N} (h1 : lo' ≤ lo) (h2 : hi ≤ hi') (h : dl_nb lo hi W) : dl_nb lo' hi' W := vx_nb_mono (fun z hz => by omega) h
theorem dl_mr_snoc {b : Nat → Int} {n : Int} {C M : List (Int × qx_T)} {lo : Int} {u t v : sx_S} {F W : rf_N} {r0 : px_N} {g : Nat} {q : Int × qx_T} {f' : px_N} {Γ : List (Int × qx_T)} {ρ : List Int} {U L A w : qx_T} (hlo : lo ≤ u.1 11 8) (hL : L = qx_a A w) (h : dl_mr b n C M lo u F r0 Γ ρ U L) (h2 : dl_mt b n C M (u.1 11 8) t W (.inner g q () f' .leaf) Γ ρ A) (htu : u.1 11 8 ≤ t.1 11 8) (e8 : v.1 11 8 = t.1 11 8) (hT : ∀ x T, dl_TV u x T → dl_TV v x T) (hT2 : ∀ x T, dl_TV t x T → dl_TV v x T) : dl_mr b n C M lo v (rf_snoc F W) (px_snoc r0 (.inner g q () f' .leaf)) Γ ρ U w := fun _ => by
  obtain ⟨a1, a2⟩ := h trivial
  obtain ⟨b1, b2, b3⟩ := h2 trivial
  subst hL
  rw [e8]
  refine ⟨vx_nb_snoc (dl_nb_mono hlo (Int.le_refl _) b1) (dl_nb_mono (Int.le_refl _) htu a1), fun AR hA => ?_⟩
  obtain ⟨c1, c2⟩ := dl_ar_snoc hA
  exact vl_tm_snoc b2 ((vl_tm_mono hT2).1 (b3 AR c2)) ((vl_tm_mono hT).2 (a2 AR c1))
/-! ===== the desk's checker: a NAME and its ARGs ===== -/
/-- every \\'s TYPE is small -/
def px_ls : px_N → Prop
  | .leaf => True
  | .inner g q _ f x => (g = 0 → qx_at q.2 ≤ 5) ∧ px_ls f ∧ px_ls x
theorem px_ls_snoc {p : px_N} : ∀ {r : px_N}, px_ls (px_snoc r p) → px_ls r ∧ px_ls p
  | .leaf, h => ⟨trivial, h⟩
  | .inner _ _ _ _ _, ⟨h1, h2, h3⟩ => ⟨⟨h1, h2, (px_ls_snoc h3).1⟩, (px_ls_snoc h3).2⟩
def dz_R (b : Nat → Int) (n : Int) (C M : List (Int × qx_T)) (nn : px_N) (Γ : List (Int × qx_T)) (ρ : List Int) (s t : sx_S) (c B V z : Int) (x : qx_T) (W : rf_N) : Prop := True → dz_G (s.1 11 6) s t ∧ t.1 18 11 = c ∧ (px_wt (px_SN b n) C M nn).1 Γ x ∧ dx_is t x (t.1 18 12) ∧ (W ≠ .leaf ∧ dz_T (s.1 11 6) t W z) ∧ (dz_mt (px_SN b n) W nn Γ ρ ∧ dl_mt b n C M (s.1 11 8) t W nn Γ ρ x) ∧ (t.1 11 6 ≤ s.1 11 6 + B ∧ t.1 11 8 ≤ s.1 11 8 + V ∧ t.1 8 2 ≤ s.1 8 2 + (c - s.1 18 11))
def px_on (K : Nat → Int) (f : Nat) (a : Int) (pp : px_N) (e : Int) : Prop := (K a.toNat = 2 ∧ pp = px_app a .leaf .leaf ∧ e = a + 1) ∨ (K a.toNat = 9 ∧ ∃ e', px_TM K f (a + 1) pp e' ∧ K e'.toNat = 10 ∧ e = e' + 1)
theorem px_TM_1 {K : Nat → Int} {f : Nat} {a : Int} {t : px_N} {c : Int} (h : px_TM K f a t c) : ∃ g q f', t = .inner g q () f' .leaf := by
  cases f with
  | zero => exact h.elim
  | succ f =>
    rcases h with ⟨_, _, _, x, e, _, _, u, _, h⟩ | ⟨_, r, _, h⟩
    · exact ⟨_, _, _, h⟩
    · exact ⟨_, _, _, h⟩
theorem px_AR_step {K : Nat → Int} {f : Nat} {a : Int} {r0 r : px_N} {c : Int} (h : px_AR K (px_TM K f) a r0 r c) (hk : K a.toNat = 2 ∨ K a.toNat = 9) : ∃ pp e, px_on K f a pp e ∧ px_AR K (px_TM K f) e (px_snoc r0 pp) r c ∧ (∃ g q f', pp = .inner g q () f' .leaf) ∧ a < e ∧ e ≤ c := by
  have hle : ∀ {e : Int} {r1 : px_N}, px_AR K (px_TM K f) e r1 r c → e ≤ c := fun ⟨g, h⟩ => px_ARg_le (fun _ _ _ q => px_TM_le q) h
  rcases px_AR_it.mp h with ⟨h1, t, e, h2, h3, h4⟩ | ⟨h1, h2⟩ | ⟨h1, h2, _⟩
  · have := px_TM_le h2
    exact ⟨t, e + 1, Or.inr ⟨h1, e, h2, h3, rfl⟩, h4, px_TM_1 h2, by omega, hle h4⟩
  · exact ⟨_, a + 1, Or.inl ⟨h1, rfl, rfl⟩, h2, ⟨_, _, _, rfl⟩, by omega, hle h2⟩
  · omega
theorem px_AR_end {K : Nat → Int} {f : Nat} {a : Int} {r0 r : px_N} {c : Int} (h : px_AR K (px_TM K f) a r0 r c) (h2 : K a.toNat ≠ 2) (h9 : K a.toNat ≠ 9) : r = r0 ∧ c = a := by
  rcases px_AR_it.mp h with ⟨h1, _⟩ | ⟨h1, _⟩ | ⟨_, _, h3, h4⟩
  · exact absurd h1 h9
  · exact absurd h1 h2
  · exact ⟨h3, h4⟩
theorem px_lv_le {b : Nat → Int} {n a c : Int} (h : px_lv b n c.toNat) (hl : a ≤ c) : px_lv b n a.toNat := fun j hj => h j (by omega)
theorem dz_T_z {lo z : Int} {s : sx_S} {W : rf_N} (h : dz_T lo s W z) (hW : W ≠ .leaf) : 0 ≤ z ∧ z < s.1 11 6 ∧ lo ≤ z := by
  cases W with
  | leaf => exact absurd rfl hW
  | inner j k u f x =>
    obtain ⟨⟨⟨q1, q2⟩, _⟩, _, _, q3, _⟩ := h trivial
    have := q3 _ List.mem_cons_self
    omega
theorem px_uS {F : Nat → Nat → Int} {B : (Nat → Nat → Int) × (Nat → Nat → Int) × Nat} {p k : Nat} {v : Int} : ((sx_uf F p k v, B) : sx_S).1 p k = v := px_us F p k v
/-- with some of its ARGs read -/
def dz_NI (b : Nat → Int) (n : Int) (C M : List (Int × qx_T)) (f : Nat) (p c : Int) (r : px_N) (Γ : List (Int × qx_T)) (ρ : List Int) (s : sx_S) (k h : Int) (i : Nat) (U : qx_T) (a1 x5 x6 x7 : Int) (L : qx_T) (r0 : px_N) (F : rf_N) (u : sx_S) : Prop := True → (dz_G (s.1 11 6) s u ∧ px_hd (px_SN b n) C M Γ p k i U ∧ ((k = 2 → h = px_id ρ i) ∧ (k ≠ 2 → h = (i : Int))) ∧ 1 ≤ k) ∧ ((px_wt (px_SN b n) C M r0).2 Γ U L ∧ dx_is u L x5 ∧ qx_at L ≤ 5) ∧ ((a1 = 1 ∧ px_AR (px_K b n) (px_TM (px_K b n) f) (u.1 18 11) r0 r c) ∨ (a1 = 0 ∧ r = r0 ∧ c = u.1 18 11)) ∧ dz_T (s.1 11 6) u (rf_n (s.1 11 6).toNat k h F .leaf) (s.1 11 6) ∧ (k ≠ 3 → x6 = 1 ∧ dz_mr (px_SN b n) F r0 Γ ρ ∧ dl_mr b n C M (s.1 11 8) u F r0 Γ ρ U L) ∧ (k = 3 → (x6 = 1 ∧ dz_pt (px_SN b n) F r0 Γ ρ) ∨ (x6 = 0 ∧ ¬ px_pt' (px_SN b n) Γ r0)) ∧ (p + 1 + x7 ≤ u.1 18 11 ∧ 0 ≤ x7 ∧ (a1 = 0 → u.1 11 6 = s.1 11 6 + 1 ∧ u.1 11 8 = s.1 11 8)) ∧ ((rf_len F : Int) + 1 + s.1 11 6 ≤ u.1 11 6 ∧ u.1 11 6 + 2 * (qx_at L : Int) ≤ s.1 11 6 + 3 * (u.1 18 11 - p) + 8 ∧ u.1 11 8 + (qx_at L : Int) ≤ s.1 11 8 + 2 * (u.1 18 11 - p) + 3 ∧ u.1 8 2 ≤ s.1 8 2 + (u.1 18 11 - p))
/-- one ARG more -/
theorem dz_NI_s {b : Nat → Int} {n : Int} {C M : List (Int × qx_T)} {f : Nat} {p c : Int} {r : px_N} {Γ : List (Int × qx_T)} {ρ : List Int} {s u t v : sx_S} {k h : Int} {i : Nat} {U : qx_T} {x5 x6 x6' x7 l : Int} {L A w : qx_T} {r0 pp : px_N} {F F' W : rf_N} {e B V z : Int} (hN : dz_NI b n C M f p c r Γ ρ s k h i U 1 x5 x6 x7 L r0 F u) (hR : dz_R b n C M pp Γ ρ u t e B V z A W) (hp : ∃ g q f', pp = .inner g q () f' .leaf) (hA : px_AR (px_K b n) (px_TM (px_K b n) f) e (px_snoc r0 pp) r c) (hae : u.1 18 11 < e) (hL : L = qx_a A w) (hw : dx_is t w l) (hB : B ≤ 3 * (e - u.1 18 11) + 2 * (qx_at A : Int) - 2) (hV : V ≤ 2 * (e - u.1 18 11) + (qx_at A : Int) - 1) (vI : cx_I v) (vF : cx_F [(11, 17)] t v) (v6 : t.1 11 6 ≤ v.1 11 6 ∧ v.1 11 6 ≤ t.1 11 6 + 1) (v8 : v.1 11 8 = t.1 11 8 ∧ v.2.1 17 = t.2.1 17) (vfr : dz_fr (fun j => (j : Int) < s.1 11 6) t v) (vT : dz_T (s.1 11 6) v (rf_n (s.1 11 6).toNat k h F' .leaf) (s.1 11 6)) (vl : rf_len F' ≤ rf_len F + 1) (h1 : k ≠ 3 → x6' = 1 ∧ dz_mr (px_SN b n) F' (px_snoc r0 pp) Γ ρ ∧ dl_mr b n C M (s.1 11 8) v F' (px_snoc r0 pp) Γ ρ U w) (h2 : k = 3 → (x6' = 1 ∧ dz_pt (px_SN b n) F' (px_snoc r0 pp) Γ ρ) ∨ (x6' = 0 ∧ ¬ px_pt' (px_SN b n) Γ (px_snoc r0 pp))) : dz_NI b n C M f p c r Γ ρ s k h i U 1 l x6' (x7 + 1) w (px_snoc r0 pp) F' v := fun _ => by
  obtain ⟨⟨a1, a2, a3, a4⟩, ⟨a5, a6, a7⟩, a8, a9, a10, a11, ⟨a12, a13, a14⟩, a15, a16, a17, a18⟩ := hN trivial
  obtain ⟨b1, b2, b3, b4, ⟨b5, b6⟩, b7, b8, b9, b10⟩ := hR trivial
  have g1 : dz_G (s.1 11 6) t v := dz_G_11 vI vF (dz_G_T b1) vfr ⟨by omega, fun j _ => by rw [v8.2]⟩
  have u6 : s.1 11 6 ≤ u.1 11 6 := ((a1 trivial).2.2.2.1 trivial).1
  have e11 : v.1 18 11 = e := (congrFun (vF.same 18 rfl).1 11).trans b2
  have e8 : v.1 8 2 = t.1 8 2 := congrFun (vF.same 8 rfl).1 2
  have hz := dz_T_z b6 b5
  have eL : qx_at L = qx_at A + qx_at w := by rw [hL]; rfl
  have wp := qx_at_pos w
  have Ap := qx_at_pos A
  obtain ⟨g, q, f', rfl⟩ := hp
  refine ⟨⟨dz_G_t g1 (dz_G_t (dz_G_lo b1 u6) a1), a2, a3, a4⟩, ⟨px_wt_snoc.mpr ⟨L, a5, px_wt_c.mpr ⟨A, w, hL, b3, rfl⟩⟩, dz_G_is g1 hw, by omega⟩, Or.inl ⟨rfl, by rw [e11]; exact hA⟩, vT, h1, h2, ⟨by omega, by omega, fun q => absurd q (by decide)⟩, by omega, by omega, by omega, by omega⟩
/-- with one ARG read and not yet given -/
def dz_N8 (b : Nat → Int) (n : Int) (C M : List (Int × qx_T)) (f : Nat) (p c : Int) (r : px_N) (Γ : List (Int × qx_T)) (ρ : List Int) (s : sx_S) (k h : Int) (i : Nat) (U : qx_T) (x5 x6 x7 : Int) (L : qx_T) (r0 : px_N) (F : rf_N) (pp : px_N) (e : Int) (v u : sx_S) (x9 : Int) (A : qx_T) (W : rf_N) (B V : Int) : Prop := True → dz_NI b n C M f p c r Γ ρ s k h i U 1 x5 x6 x7 L r0 F v ∧ px_AR (px_K b n) (px_TM (px_K b n) f) e (px_snoc r0 pp) r c ∧ (∃ g q f', pp = .inner g q () f' .leaf) ∧ (v.1 18 11 < e ∧ e ≤ c) ∧ (B ≤ 3 * (e - v.1 18 11) + 2 * (qx_at A : Int) - 2 ∧ V ≤ 2 * (e - v.1 18 11) + (qx_at A : Int) - 1) ∧ dz_R b n C M pp Γ ρ v u e B V x9 A W
/-- no type -/
theorem dz_no {b : Nat → Int} {n : Int} {C M Γ : List (Int × qx_T)} {p k : Int} {i : Nat} {U L : qx_T} {r r0 pp q' : px_N} (hd : px_hd (px_SN b n) C M Γ p k i U) (hr : (px_wt (px_SN b n) C M r0).2 Γ U L) (hq : r = px_snoc (px_snoc r0 pp) q') (hp : ∃ g q f', pp = .inner g q () f' .leaf) (hno : ∀ A B, (px_wt (px_SN b n) C M pp).1 Γ A → L = qx_a A B → False) : ∀ x, ¬ (px_wt (px_SN b n) C M (px_app p r .leaf)).1 Γ x := fun x hx => by
  rw [px_snoc_assoc] at hq
  have h1 := px_wt_row (q := (p, .leaf)) Nat.one_ne_zero hd hr hq hx
  obtain ⟨g, q, f', rfl⟩ := hp
  obtain ⟨w, h2, _⟩ := px_wt_snoc.mp h1
  obtain ⟨A, B, h3, h4, _⟩ := px_wt_c.mp h2
  exact hno A B h4 h3

theorem st_dz_named {sL : Nat} {sx : Nat → Int32} (hsL : sL ≤ 3072) (b : Nat → Int) (n : Int) (C M : List (Int × qx_T)) (f : Nat) {d : Nat} (hd : 12 ≤ d) (w1 : Int) (h_arg : w1 = 1 → ∀ (q e a0 : Int) (pp : px_N) (Γ : List (Int × qx_T)) (ρ : List Int) (s : sx_S) (R : Int → sx_S → Prop), cx_I s → a0 = 20 - ((f : Nat) : Int) → (Γ.length : Int) ≤ a0 → s.1 18 11 = q → 0 ≤ q → px_on (px_K b n) f q pp e → px_ls pp → dz_E b n C M s → dz_SC s Γ ρ → px_lv b n e.toNat → (s.1 11 6 + 3 * (e - q) + 14 ≤ 1024 ∧ s.1 11 8 + 2 * (e - q) + 16 ≤ 512 ∧ s.1 8 2 + (e - q) ≤ 255) → (∀ z t x W B V, B ≤ 3 * (e - q) + 2 * (qx_at x : Int) - 2 → V ≤ 2 * (e - q) + (qx_at x : Int) - 1 → dz_R b n C M pp Γ ρ s t e B V z x W → R z t) → ((∀ x, ¬ (px_wt (px_SN b n) C M pp).1 Γ x) → ∀ t, cx_I t → t.1 18 9 = s.1 18 9 → R (-1) t) → sx_C sL sx (d + 1) 31 [.inr (.inl 18), .inl a0] s R) : ∀ (p c a0 a1 : Int) (r : px_N) (Γ : List (Int × qx_T)) (ρ : List Int) (s : sx_S) (R : Int → sx_S → Prop), a1 = w1 → cx_I s → a0 = 20 - ((f : Nat) : Int) → (Γ.length : Int) ≤ a0 → s.1 18 11 = p → 0 ≤ p → ((a1 = 1 ∧ px_AR (px_K b n) (px_TM (px_K b n) f) (p + 1) .leaf r c) ∨ (a1 = 0 ∧ r = .leaf ∧ c = p + 1)) → px_ls r → dz_E b n C M s → dz_SC s Γ ρ → px_lv b n c.toNat → (a1 = 1 → s.1 11 6 + 3 * (c - p) + 20 ≤ 1024 ∧ s.1 11 8 + 2 * (c - p) + 20 ≤ 512) → (s.1 11 6 + 17 ≤ 1024 ∧ s.1 11 8 + 18 ≤ 512 ∧ s.1 8 2 + (c - p) ≤ 255) → (∀ z t x W B V, (a1 = 1 → B ≤ 3 * (c - p) + 6 ∧ V ≤ 2 * (c - p) + 2) → (a1 = 0 → B ≤ 2 * (qx_at x : Int) - 1 ∧ V ≤ (qx_at x : Int) - 1) → dz_R b n C M (px_app p r .leaf) Γ ρ s t c B V z x W → R z t) → ((∀ x, ¬ (px_wt (px_SN b n) C M (px_app p r .leaf)).1 Γ x) → ∀ t, cx_I t → t.1 18 9 = s.1 18 9 → R (-1) t) → sx_C sL sx (d + 2) 29 [.inr (.inl 18), .inl a0, .inl a1] s R := by
  intro p c a0 a1 r Γ ρ s R hw1 hI p0 pg pp0 pp1 pA pl hE hS hlv hr1 hr2 hK hX
  have h0 := hI.fld 11 6 (by decide) rfl
  have h8 := hI.fld 11 8 (by decide) rfl
  obtain ⟨e1, e2, e3, ⟨e4, e5⟩, e6, e7⟩ := hE trivial
  obtain ⟨⟨s1, s2⟩, s3, s4, s5, s6⟩ := hS trivial
  have hTK := (e1 trivial).2.2
  have hm := (hTK trivial).1
  have hqa : a1 = 0 ∨ a1 = 1 := by rcases pA with q | q <;> omega
  have hpc : p + 1 ≤ c := by
    rcases pA with ⟨_, g, q⟩ | ⟨_, _, q⟩
    · exact px_ARg_le (fun _ _ _ q => px_TM_le q) q
    · omega
  have hcm := (px_TK_kd hTK (show 0 ≤ c by omega) hlv).2.2
  refine sx_methL (wr := true) (n := 400) (n' := 400) (stop := [(48, [0, 1, 2, 3, 4, 5, 6, 7]), (80, [0, 1, 2, 3, 4, 5, 6, 7, 8, 9]), (124, [0, 1, 2, 3, 4, 5, 6, 7, 9]), (153, [0, 3, 4, 5, 6])]) (fun nn pc ls u => (pc = 48 ∧ ∃ (x5 x6 x7 k h : Int) (i : Nat) (U L : qx_T) (r0 : px_N) (F : rf_N), ls = [(0, .inr (.inl 18)), (1, .inl a0), (2, .inl a1), (3, .inl p), (4, .inl (s.1 11 6)), (5, .inl x5), (6, .inl x6), (7, .inl x7)] ∧ dz_NI b n C M f p c r Γ ρ s k h i U a1 x5 x6 x7 L r0 F u ∧ nn = (3000 - 3 * x7).toNat) ∨ (pc = 153 ∧ ∃ (x5 x6 x7 k h : Int) (i : Nat) (U L : qx_T) (F : rf_N), ls = [(0, .inr (.inl 18)), (3, .inl p), (4, .inl (s.1 11 6)), (5, .inl x5), (6, .inl x6)] ∧ dz_NI b n C M f p c r Γ ρ s k h i U a1 x5 x6 x7 L r F u ∧ u.1 18 11 = c ∧ nn = 0) ∨ (pc = 80 ∧ a1 = 1 ∧ ∃ x5 x6 x7 x8 x9 : Int, ls = [(0, .inr (.inl 18)), (1, .inl a0), (2, .inl a1), (3, .inl p), (4, .inl (s.1 11 6)), (5, .inl x5), (6, .inl x6), (7, .inl x7), (8, .inl x8), (9, .inl x9)] ∧ (0 ≤ x7 ∧ x7 < 240) ∧ (-2147483648 ≤ x8 ∧ x8 ≤ 2147483647) ∧ cx_I u ∧ ((x9 = -1 ∧ u.1 18 9 = s.1 18 9 ∧ ∀ x, ¬ (px_wt (px_SN b n) C M (px_app p r .leaf)).1 Γ x) ∨ ∃ (k h : Int) (i : Nat) (U L : qx_T) (r0 : px_N) (F : rf_N) (pp : px_N) (e : Int) (v : sx_S) (A : qx_T) (W : rf_N) (B V : Int), dz_N8 b n C M f p c r Γ ρ s k h i U x5 x6 x7 L r0 F pp e v u x9 A W B V) ∧ nn = (2999 - 3 * x7).toNat) ∨ (pc = 124 ∧ a1 = 1 ∧ ∃ x5' x5 x6 x7 x9 : Int, ls = [(0, .inr (.inl 18)), (1, .inl a0), (2, .inl a1), (3, .inl p), (4, .inl (s.1 11 6)), (5, .inl x5), (6, .inl x6), (7, .inl x7), (9, .inl x9)] ∧ (0 ≤ x7 ∧ x7 < 240) ∧ (x6 = 0 ∨ x6 = 1) ∧ (∃ (k h : Int) (i : Nat) (U L : qx_T) (r0 : px_N) (F : rf_N) (pp : px_N) (e : Int) (v : sx_S) (A : qx_T) (W : rf_N) (B V : Int) (w : qx_T), dz_N8 b n C M f p c r Γ ρ s k h i U x5' x6 x7 L r0 F pp e v u x9 A W B V ∧ L = qx_a A w ∧ dx_is u w x5) ∧ nn = (2998 - 3 * x7).toNat)) hsL (e := eX1_named) rfl ?_ ?_
  · refine w_nm (lo := s.1 11 6) (Zm := fun t => ∃ k h i u, dz_mn b n C M Γ ρ p s t k h i u) (Zx := ∀ k i u, ¬ px_hd (px_SN b n) C M Γ p k i u) (c_dz_blame hsL (d + 1) (by omega)) hI (by omega) ?_ ?_ ?_ ?_
    · rintro t ⟨k, h, i, u, m⟩
      exact dz_G_I (m trivial).2.2.2.1
    · intro K k1 k2
      rw [pp0]
      exact c_dz_meaning hsL (d + 1) (by omega) b n C M p Γ ρ s K hI (by omega) hE hS (by omega) (fun t k h i u _ m => k1 t ⟨k, h, i, u, m⟩) k2
    · intro q t t1 t2
      refine hX (fun x hx => ?_) t t1 t2
      rcases hx with ⟨hx, _⟩ | ⟨_, o, k, u, hx, _⟩
      · exact absurd hx Nat.one_ne_zero
      · exact q o k u hx
    · rintro t ⟨k, h, i, U, hmn⟩ w hw y hy
      obtain ⟨m1, m2, ⟨m3, m3'⟩, m4, m5, ⟨m6, m7, m8, m9⟩, m10, m11⟩ := hmn trivial
      have ew : w = p + 1 := by rw [hw, m9, pp0, px_wid (by omega) (by omega)]
      subst ew
      have hIt : cx_I (sx_uf t.1 18 11 (p + 1), t.2) := cx_I_uf rfl rfl (dz_G_I m4) (by omega) (by omega)
      have g1 : dz_G (s.1 11 6) t (sx_uf t.1 18 11 (p + 1), t.2) := dz_G_uf hIt (dz_G_T m4) rfl
      have e11 : (sx_uf t.1 18 11 (p + 1), t.2).1 18 11 = p + 1 := px_uS
      rw [pp0]
      refine ⟨_, Or.inl ⟨rfl, y, 1, 0, k, h, i, U, U, .leaf, .leaf, rfl, fun _ => ⟨⟨dz_G_t g1 m4, m1, m2, m3'⟩, ⟨rfl, dz_G_is g1 (by rw [hy]; exact m5), m11⟩, ?_, fun _ => (m10 trivial), fun _ => ⟨rfl, dz_mr_nil, fun _ => ⟨trivial, fun _ _ => ⟨rfl, rfl⟩⟩⟩, fun _ => Or.inl ⟨rfl, dz_pt_nil⟩, ⟨by rw [e11]; omega, by omega, fun _ => ⟨m6, m7⟩⟩, ?_, ?_, ?_, ?_⟩, rfl⟩⟩
      · rw [e11]
        rcases pA with q | ⟨q1, q2, q3⟩
        · exact Or.inl q
        · exact Or.inr ⟨q1, q2, q3⟩
      · show (0 : Int) + 1 + _ ≤ t.1 11 6
        omega
      · rw [e11]
        show t.1 11 6 + _ ≤ _
        omega
      · rw [e11]
        show t.1 11 8 + _ ≤ _
        omega
      · rw [e11]
        show t.1 8 2 ≤ _
        omega
  · rintro nn pc ls u (⟨rfl, x5, x6, x7, k, h, i, U, L, r0, F, rfl, hNI, rfl⟩ | ⟨rfl, x5, x6, x7, k, h, i, U, L, F, rfl, hNI, huc, rfl⟩ | ⟨rfl, ha1, x5, x6, x7, x8, x9, rfl, r7, r8, uI, hU, rfl⟩ | ⟨rfl, ha1, x5', x5, x6, x7, x9, rfl, r7, r6, ⟨k, h, i, U, L, r0, F, pp, e, v, A, W, B, V, w', h8, l1, l3⟩, rfl⟩)
    · obtain ⟨⟨n1, n2, n3, n4⟩, ⟨n5, n6, n7⟩, n8, n9, n10, n11, ⟨n12, n13, n14⟩, n15, n16, n17, n18⟩ := hNI trivial
      have uI := dz_G_I n1
      have uE := dz_E_G hE n1
      have uS := dz_SC_G hS n1
      have u9 : u.1 18 9 = s.1 18 9 := (n1 trivial).2.1 9 rfl
      have uTK := ((uE trivial).1 trivial).2.2
      have hac : u.1 18 11 ≤ c := by
        rcases n8 with ⟨_, g, q⟩ | ⟨_, _, q⟩
        · exact px_ARg_le (fun _ _ _ q => px_TM_le q) q
        · omega
      have Lp := qx_at_pos L
      have hq6 : x6 = 0 ∨ x6 = 1 := by
        by_cases q : k = 3
        · rcases n11 q with q | q <;> omega
        · have := n10 q
          omega
      have ulv := px_lv_le hlv hac
      by_cases hB : px_K b n (u.1 18 11).toNat = 2 ∨ px_K b n (u.1 18 11).toNat = 9
      · by_cases ha1 : a1 = 1
        · subst ha1
          have hAR : px_AR (px_K b n) (px_TM (px_K b n) f) (u.1 18 11) r0 r c := by
            rcases n8 with ⟨_, q⟩ | ⟨q, _⟩
            · exact q
            · omega
          obtain ⟨pp, e, o1, o2, o3, o4, o5⟩ := px_AR_step hAR hB
          obtain ⟨q', hq'⟩ := px_AR_sn o2
          have hls : px_ls pp := (px_ls_snoc (px_ls_snoc (by rw [hq'] at pl; exact pl)).1).2
          have hr1' := hr1 rfl
          have hh := dz_T_lt n9
          refine w_nm_48 (B := px_K b n (u.1 18 11).toNat = 2 ∨ px_K b n (u.1 18 11).toNat = 9) (Zt := fun w t => cx_I t ∧ ((w = -1 ∧ t.1 18 9 = s.1 18 9 ∧ ∀ x, ¬ (px_wt (px_SN b n) C M (px_app p r .leaf)).1 Γ x) ∨ ∃ A W B V, dz_N8 b n C M f p c r Γ ρ s k h i U x5 x6 x7 L r0 F pp e u t w A W B V)) uI (by omega) (Or.inr rfl) ?_ ?_ ?_ (fun q => ?_)
          · intro _ K k1 k2
            exact c_dz_beg hsL (d + 1) (by omega) b n u K uI uTK ulv (by omega) k1 (fun q => k2 (fun q' => by omega))
          · intro _ _ K k1
            exact h_arg hw1.symm (u.1 18 11) e a0 pp Γ ρ u K uI p0 pg rfl (by omega) o1 hls uE uS (px_lv_le hlv o5) (by omega) (fun z t x W B V c1 c2 c3 => k1 z t ⟨dz_G_I (c3 trivial).1, Or.inr ⟨x, W, B, V, fun _ => ⟨hNI, o2, o3, ⟨o4, o5⟩, ⟨c1, c2⟩, c3⟩⟩⟩) (fun q t t1 t2 => k1 _ t ⟨t1, Or.inl ⟨rfl, by omega, dz_no n2 n5 hq' o3 (fun A B q' _ => q A q')⟩⟩)
          · rintro w t ⟨tI, hz⟩
            have u11 := uI.fld 18 11 (by decide) rfl
            refine ⟨(2999 - 3 * x7).toNat, by omega, Or.inr (Or.inr (Or.inl ⟨rfl, rfl, x5, x6, x7, _, w, rfl, by omega, u11, tI, ?_, rfl⟩))⟩
            rcases hz with hz | ⟨A, W, B, V, hz⟩
            · exact Or.inl hz
            · exact Or.inr ⟨k, h, i, U, L, r0, F, pp, e, u, A, W, B, V, hz⟩
          · rcases q with q | q
            · omega
            · exact absurd hB q
        · have ha0 : a1 = 0 := by omega
          subst ha0
          have hrr : r = r0 ∧ c = u.1 18 11 := by
            rcases n8 with ⟨q, _⟩ | ⟨_, q⟩
            · omega
            · exact q
          obtain ⟨rfl, hcu⟩ := hrr
          refine w_nm_48 (B := True) (Zt := fun _ _ => False) uI (by omega) (Or.inl rfl) (fun q => absurd q (by decide)) (fun q => absurd q (by decide)) (fun _ _ q => q.elim) (fun _ => ⟨0, by omega, Or.inr (Or.inl ⟨rfl, x5, x6, x7, k, h, i, U, L, F, rfl, hNI, hcu.symm, rfl⟩)⟩)
      · have hrr : r = r0 ∧ c = u.1 18 11 := by
          rcases n8 with ⟨_, q⟩ | ⟨_, q⟩
          · exact px_AR_end q (fun z => hB (Or.inl z)) (fun z => hB (Or.inr z))
          · exact q
        obtain ⟨rfl, hcu⟩ := hrr
        refine w_nm_48 (B := px_K b n (u.1 18 11).toNat = 2 ∨ px_K b n (u.1 18 11).toNat = 9) (Zt := fun _ _ => False) uI (by omega) hqa (fun _ K k1 k2 => ?_) (fun _ q => absurd q hB) (fun _ _ q => q.elim) (fun _ => ⟨0, by omega, Or.inr (Or.inl ⟨rfl, x5, x6, x7, k, h, i, U, L, F, rfl, hNI, hcu.symm, rfl⟩)⟩)
        exact c_dz_beg hsL (d + 1) (by omega) b n u K uI uTK ulv (by omega) k1 (fun q => k2 (fun q' => by omega))
    · obtain ⟨⟨n1, n2, n3, n4⟩, ⟨n5, n6, n7⟩, n8, n9, n10, n11, ⟨n12, n13, n14⟩, n15, n16, n17, n18⟩ := hNI trivial
      have uI := dz_G_I n1
      have uE := dz_E_G hE n1
      have u9 : u.1 18 9 = s.1 18 9 := (n1 trivial).2.1 9 rfl
      have Lp := qx_at_pos L
      have hq6 : x6 = 0 ∨ x6 = 1 := by
        by_cases q : k = 3
        · rcases n11 q with q | q <;> omega
        · have := n10 q
          omega
      have hx5 := dx_rng n6 (uE trivial).2.2.2.1.2
      have hu8 := uI.fld 8 2 (by decide) rfl
      have uI' : cx_I (sx_uf u.1 18 12 x5, u.2) := cx_I_uf rfl rfl uI (by omega) (by omega)
      have g1 : dz_G (s.1 11 6) u (sx_uf u.1 18 12 x5, u.2) := dz_G_uf uI' (dz_G_T n1) rfl
      refine w_nm_153 (Zc := fun z t => x6 = 1 ∧ ∃ W, cx_I t ∧ cx_F [(11, 17)] (sx_uf u.1 18 12 x5, u.2) t ∧ dl_cp (s.1 11 6) L k h F (sx_uf u.1 18 12 x5, u.2) t z W) (c_dz_blame hsL (d + 1) (by omega)) uI hq6 (by omega) ?_ ?_ ?_
      · intro q t t1 t2
        refine hX (fun x hx => ?_) t t1 (by omega)
        have k3 : k = 3 := by
          by_cases z : k = 3
          · exact z
          · have := n10 z
            omega
        rcases n11 k3 with ⟨y1, _⟩ | ⟨_, y2⟩
        · omega
        · rcases hx with ⟨hx, _⟩ | ⟨_, o, k', u', hx, _, hp⟩
          · exact absurd hx Nat.one_ne_zero
          · obtain ⟨o1, _, _⟩ := px_hd_fun hx n2
            exact y2 (hp (by omega))
      · intro x61 K hK'
        exact c_dl_cp hsL 5 (by omega) (d + 1) (by omega) (s.1 11 6) L (s.1 11 6) x5 0 k h F (sx_uf u.1 18 12 x5, u.2) K uI' (by omega) (fun _ => n9 trivial) (dz_G_is g1 n6) ((dz_E_G uE g1) trivial).2.2.2.1.2 n7 (by omega) (by omega) (by show _ ≤ u.1 11 6; omega) (by show u.1 11 6 + _ ≤ _; omega) (by show u.1 11 8 + _ ≤ _; omega) (fun z t W t1 t2 t3 => hK' z t ⟨x61, W, t1, t2, t3⟩)
      · rintro z t ⟨x61, W, t1, t2, t3⟩
        obtain ⟨c1, c2, c3, ⟨c4, c5, c6⟩, c7, c8, c9⟩ := t3 trivial
        have c4' : t.1 11 6 + 2 ≤ u.1 11 6 + 2 * (qx_at L : Int) := c4
        have c6' : t.1 11 8 + 1 ≤ u.1 11 8 + (qx_at L : Int) := c6
        have g2 : dz_G (s.1 11 6) (sx_uf u.1 18 12 x5, u.2) t := dz_G_11 t1 t2 (dz_G_T g1) c3 ⟨c5, c7⟩
        have e11 : t.1 18 11 = u.1 18 11 := congrFun (t2.same 18 rfl).1 11
        have e12 : t.1 18 12 = x5 := (congrFun (t2.same 18 rfl).1 12).trans (px_us u.1 18 12 x5)
        have e8 : t.1 8 2 = u.1 8 2 := congrFun (t2.same 8 rfl).1 2
        have hpt : k = 3 → px_pt' (px_SN b n) Γ r := fun k3 => by
          rcases n11 k3 with ⟨_, y2⟩ | ⟨y1, _⟩
          · exact dz_pt_ok y2
          · omega
        refine hK z t L W (if a1 = 1 then 3 * (c - p) + 6 else 2 * (qx_at L : Int) - 1) (if a1 = 1 then 2 * (c - p) + 2 else (qx_at L : Int) - 1) (fun q => by rw [if_pos q, if_pos q]; omega) (fun q => by rw [if_neg (by omega), if_neg (by omega)]; omega) (fun _ => ⟨dz_G_t g2 (dz_G_t g1 n1), by omega, Or.inr ⟨Nat.one_ne_zero, k, i, U, n2, n5, hpt⟩, ?_, ⟨c1, c2⟩, ⟨dz_mt_app s5 s2 s6 c8 n5 n2 n3.1 (fun q => (n10 (by omega)).2.1), ?_⟩, ?_, ?_, by omega⟩)
        · rw [e12]
          exact dz_G_is g2 (dz_G_is g1 n6)
        · have gu : dz_G (s.1 11 6) u t := dz_G_t g2 g1
          have u8 : s.1 11 8 ≤ u.1 11 8 := ((n1 trivial).2.2.2.2.1).1
          have hρ : ∀ z ∈ ρ, z < ((sx_uf u.1 18 12 x5, u.2) : sx_S).1 11 8 := fun z hz => by
            have := s4 z hz
            show z < u.1 11 8
            omega
          obtain ⟨d1, d2, d3, d4⟩ := c9 trivial
          refine fun _ => ⟨?_, d4, fun AR hA => Or.inr ⟨Nat.one_ne_zero, k, i, U, h, n2, n3, ?_⟩⟩
          · refine d1 (s.1 11 8) u8 (fun k3 => ?_)
            exact ((n10 k3).2.2 trivial).1
          · by_cases k3 : k = 3
            · have x61' : dz_pt (px_SN b n) F r Γ ρ := by
                rcases n11 k3 with ⟨_, y2⟩ | ⟨y1, _⟩
                · exact y2
                · omega
              obtain ⟨ls, l1, l2, l3, l4⟩ := x61' trivial
              refine Or.inr ⟨k3, ls, l2, l4, ?_, ?_⟩
              · exact (px_qv_ty.2 n5 (px_pv_qv.2 l2)).2.1
              · have := d3 k3 AR ρ hA hρ
                rw [l1] at this
                exact this
            · have c := d2 k3 ρ hρ
              exact Or.inl ⟨k3, F, (vl_tm_mono (dl_TV_G gu)).2 (((n10 k3).2.2 trivial).2 AR (vl_c1_ar c k3 hA)), c⟩
        · by_cases q : a1 = 1
          · rw [if_pos q]
            omega
          · rw [if_neg q]
            have := n14 (by omega)
            omega
        · by_cases q : a1 = 1
          · rw [if_pos q]
            omega
          · rw [if_neg q]
            have := n14 (by omega)
            omega
    · subst ha1
      rcases hU with ⟨rfl, t2, t3⟩ | ⟨k, h, i, U, L, r0, F, pp, e, v, A, W, B, V, h8⟩
      · exact w_nm_80 (Af := 0) (Ag := 0) (c_dz_blame hsL (d + 1) (by omega)) uI r8 (by omega) (by omega) (fun _ => hX t3 u uI t2) (fun q => absurd q (by decide)) (fun q => absurd q (by decide)) (fun q => absurd q (by decide)) (fun q => absurd q (by decide))
      · obtain ⟨hNI, o2, o3, ⟨o4, o5⟩, ⟨c1, c2⟩, c3⟩ := h8 trivial
        obtain ⟨⟨n1, n2, n3, n4⟩, ⟨n5, n6, n7⟩, n8, n9, n10, n11, ⟨n12, n13, n14⟩, n15, n16, n17, n18⟩ := hNI trivial
        obtain ⟨b1, b2, b3, b4, ⟨b5, b6⟩, b7, b8, b9, b10⟩ := c3 trivial
        have vE := dz_E_G hE n1
        have uE := dz_E_G vE b1
        have u2 := (uE trivial).2.2.2.1.2
        have hx5 := dx_rng n6 (vE trivial).2.2.2.1.2
        have v8 := (dz_G_I n1).fld 8 2 (by decide) rfl
        have u8 := uI.fld 8 2 (by decide) rfl
        have u9 : u.1 18 9 = v.1 18 9 := (b1 trivial).2.1 9 rfl
        have v9 : v.1 18 9 = s.1 18 9 := (n1 trivial).2.1 9 rfl
        have hr12 := dx_rng b4 u2
        have hLt := dz_G_is b1 n6
        have hz := dz_T_z b6 b5
        have hu6 := uI.fld 11 6 (by decide) rfl
        have ra9 := uI.arr 9 (by decide) rfl x5.toNat
        obtain ⟨q', hq'⟩ := px_AR_sn o2
        refine w_nm_80 (Af := if 2 ≤ x5 ∧ x5 < u.1 8 2 then u.2.1 9 x5.toNat else -1) (Ag := if 2 ≤ x5 ∧ x5 < u.1 8 2 then u.2.1 10 x5.toNat else -1) (c_dz_blame hsL (d + 1) (by omega)) uI r8 ?_ (by omega) (fun q => by omega) ?_ ?_ ?_ ?_
        · by_cases q : 2 ≤ x5 ∧ x5 < u.1 8 2
          · rw [if_pos q]
            exact ra9
          · rw [if_neg q]
            omega
        · intro _ K hK'
          refine c_dz_from hsL (d + 1) (by omega) x5 u K uI (by omega) (fun z z1 z2 => ?_)
          by_cases q : 2 ≤ x5 ∧ x5 < u.1 8 2
          · rw [if_pos q] at hK'
            rw [z1 q.1 q.2]
            exact hK'
          · rw [if_neg q] at hK'
            rw [z2 (by omega)]
            exact hK'
        · intro _ _ K hK'
          refine c_dz_to hsL (d + 1) (by omega) x5 u K uI (by omega) (fun z z1 z2 => ?_)
          by_cases q : 2 ≤ x5 ∧ x5 < u.1 8 2
          · rw [if_pos q] at hK'
            rw [z1 q.1 q.2]
            exact hK'
          · rw [if_neg q] at hK'
            rw [z2 (by omega)]
            exact hK'
        · intro _ hAf t t1 t2
          refine hX (dz_no n2 n5 hq' o3 (fun A' B' q1 q2 => hAf ?_)) t t1 (by omega)
          have eA := px_wt_fun.1 q1 b3
          subst eA
          rw [q2] at hLt
          obtain ⟨_, hLt⟩ := hLt
          rcases hLt with ⟨hLt, _⟩ | ⟨_, l1, l2, l3⟩
          · exact absurd hLt (by decide)
          · rw [if_pos l1]
            exact dx_inj (dz_G_T b1) l2 b4
        · intro _ hAf
          have q : 2 ≤ x5 ∧ x5 < u.1 8 2 := by
            by_cases q : 2 ≤ x5 ∧ x5 < u.1 8 2
            · exact q
            · rw [if_neg q] at hAf
              omega
          rw [if_pos q] at hAf
          rw [if_pos q]
          obtain ⟨T, w', l1, l2, l3⟩ := dz_arr hLt q.1 q.2
          have eT : T = A := by
            rw [hAf] at l2
            exact qx_ty_fun l2 b4
          subst eT
          have hq6 : x6 = 0 ∨ x6 = 1 := by
            by_cases q : k = 3
            · rcases n11 q with q | q <;> omega
            · have := n10 q
              omega
          exact ⟨(2998 - 3 * x7).toNat, by omega, Or.inr (Or.inr (Or.inr ⟨rfl, rfl, x5, _, x6, x7, x9, rfl, r7, hq6, ⟨k, h, i, U, L, r0, F, pp, e, v, T, W, B, V, w', h8, l1, l3⟩, rfl⟩))⟩
    · subst ha1
      obtain ⟨hNI, o2, o3, ⟨o4, o5⟩, ⟨c1, c2⟩, c3⟩ := h8 trivial
      obtain ⟨⟨n1, n2, n3, n4⟩, ⟨n5, n6, n7⟩, n8, n9, n10, n11, ⟨n12, n13, n14⟩, n15, n16, n17, n18⟩ := hNI trivial
      obtain ⟨b1, b2, b3, b4, ⟨b5, b6⟩, b7, b8, b9, b10⟩ := c3 trivial
      have uI := dz_G_I b1
      have hh := dz_T_lt n9
      have hTt := dz_T_fr n9 (b1 trivial).2.2.2.1 hh
      have hge := (b6 trivial).2.2.2.1
      have t6 : v.1 11 6 ≤ u.1 11 6 := ((b1 trivial).2.2.2.1 trivial).1
      have v6 : s.1 11 6 ≤ v.1 11 6 := ((n1 trivial).2.2.2.1 trivial).1
      have hnx := (b6 trivial).2.2.2.2
      have hr1' := hr1 rfl
      have eL : qx_at L = qx_at A + qx_at w' := by rw [l1]; rfl
      have wp := qx_at_pos w'
      have Ap := qx_at_pos A
      obtain ⟨pg0, pq0, pf0, hpp⟩ := o3
      refine w_nm_124 (Zg := fun y t => ∀ x6', (y = 1 ∧ x6 = 1 ∧ x6' = 1 ∨ (y = 0 ∨ x6 = 0) ∧ x6' = 0) → ∃ F' w, dz_NI b n C M f p c r Γ ρ s k h i U 1 x5 x6' (x7 + 1) w (px_snoc r0 pp) F' t) r7 r6 ?_ ?_
      · intro K hK'
        refine c_dz_gives hsL (d + 1) (by omega) (s.1 11 6) (s.1 11 6) x9 k h F W u K uI (by omega) hTt (dz_T_lo b6 v6) b5 (fun j hj hj' => ?_) (by omega) (by omega) (fun k3 t v1 v2 ⟨v3, v4, v5⟩ v6' v7 => ?_) (fun k3 z hz => ⟨fun hz' => ?_, fun z0 hzn t v1 v2 ⟨v3, v4, v5⟩ v6' v7 => ?_⟩)
        · have q1 := hh j hj
          have q2 := hge j hj'
          omega
        · refine hK' 1 t (Or.inr rfl) (fun x6' hx6 => ?_)
          obtain ⟨y1, y2, y3⟩ := n10 k3
          have e6 : x6' = 1 := by omega
          subst e6
          have gv : dz_G (v.1 11 6) v u := b1
          have u8' : v.1 11 8 ≤ u.1 11 8 := ((b1 trivial).2.2.2.2.1).1
          have v8' : s.1 11 8 ≤ v.1 11 8 := ((n1 trivial).2.2.2.2.1).1
          have tu : ∀ x T, dl_TV u x T → dl_TV t x T := dl_TV_mono v2 (by rw [v4]; exact Int.le_refl _) (fun j _ => by rw [v5])
          exact ⟨_, w', dz_NI_s hNI c3 ⟨pg0, pq0, pf0, hpp⟩ o2 o4 l1 l3 c1 c2 v1 v2 (by omega) ⟨v4, v5⟩ v7 v6' (by rw [rf_len_snoc, rf_nx_len hnx b5]; exact Nat.le_refl _) (fun _ => ⟨rfl, by rw [hpp]; exact dz_mr_snoc hnx b5 y2 (by rw [← hpp]; exact b7.1), by rw [hpp]; exact dl_mr_snoc v8' l1 y3 (by rw [← hpp]; exact b7.2) u8' v4 (fun x T q => tu x T (dl_TV_G gv x T q)) tu⟩) (fun q => absurd q k3)⟩
        · refine hK' 0 u (Or.inl rfl) (fun x6' hx6 => ?_)
          have e6 : x6' = 0 := by omega
          subst e6
          refine ⟨F, w', dz_NI_s hNI c3 ⟨pg0, pq0, pf0, hpp⟩ o2 o4 l1 l3 c1 c2 uI (cx_F_refl _ _) (by omega) ⟨rfl, rfl⟩ (dz_fr_refl _ _) hTt (by omega) (fun q => absurd k3 q) (fun _ => Or.inr ⟨rfl, ?_⟩)⟩
          rw [hpp]
          rcases n11 k3 with ⟨y1, y2⟩ | ⟨y1, y2⟩
          · rcases dz_mt_pv s6 b3 b7.1 hz with ⟨g1, g2⟩ | ⟨g1, l, g2, g3, g4⟩
            · exact px_pt_no (by rw [← hpp]; exact g2)
            · have hin : z ∈ dz_hs F := by
                rcases hz' with q | q
                · omega
                · exact q
              exact (dz_pt_snoc (j := 0) s5 s2 y2 g2 g3 (by rw [← hpp]; exact g4)).1 hin
          · exact px_pt_up y2
        · refine hK' 1 t (Or.inr rfl) (fun x6' hx6 => ?_)
          refine ⟨_, w', dz_NI_s hNI c3 ⟨pg0, pq0, pf0, hpp⟩ o2 o4 l1 l3 c1 c2 v1 v2 (by omega) ⟨v4, v5⟩ v7 v6' (by rw [rf_len_snoc]; exact Nat.le_refl _) (fun q => absurd k3 q) (fun _ => ?_)⟩
          rw [hpp]
          rcases n11 k3 with ⟨y1, y2⟩ | ⟨y1, y2⟩
          · rcases dz_mt_pv s6 b3 b7.1 hz with ⟨g1, g2⟩ | ⟨g1, l, g2, g3, g4⟩
            · omega
            · exact Or.inl ⟨by omega, (dz_pt_snoc s5 s2 y2 g2 g3 (by rw [← hpp]; exact g4)).2 hzn⟩
          · exact Or.inr ⟨by omega, px_pt_up y2⟩
      · rintro t x6' ⟨y, hz, hx6⟩
        obtain ⟨F', w, hz⟩ := hz x6' hx6
        exact ⟨(3000 - 3 * (x7 + 1)).toNat, by omega, Or.inl ⟨rfl, x5, x6', x7 + 1, k, h, i, U, w, _, F', rfl, hz, rfl⟩⟩
end
