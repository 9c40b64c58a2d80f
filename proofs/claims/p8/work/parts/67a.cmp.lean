/-! ===== the desk's complete makes long forms ===== -/
/-- the ARGs of calls, as AR has them -/
def dl_ar (AR : Nat → List Int) : rf_N → Prop
  | .leaf => True
  | .inner j q _ F X => (q.1 = 3 → AR j = dz_hs F) ∧ (q.1 ≠ 3 → dl_ar AR F) ∧ dl_ar AR X
def dl_TV (u : sx_S) (v : Int) (T : qx_T) : Prop := 0 ≤ v ∧ v < u.1 11 8 ∧ dx_is u T (u.2.1 17 v.toNat)
/-- the \ bind lo .. hi - 1, each once -/
def dl_nb (lo hi : Int) (W : rf_N) : Prop := vx_nb W (fun z => ¬ (lo ≤ z ∧ z < hi))
theorem vl_c1_mono {TV TV' : Int → qx_T → Prop} (hT : ∀ v T, TV v T → TV' v T) : ∀ {x : qx_T} {W : rf_N} {k h : Int} {f : rf_N} {ρ : List Int}, vl_c1 TV x W k h f ρ → vl_c1 TV' x W k h f ρ
  | .leaf, _, _, _, _, _, h => h
  | .inner _ b _ x y, _, _, _, _, _, h => by
    rcases h with h | ⟨h0, j, v, g, W', h1, ⟨h2, h3, h4⟩, h5, h6, h7⟩
    · exact Or.inl h
    · exact Or.inr ⟨h0, j, v, g, W', h1, ⟨h2, h3, hT v x h4⟩, h5, vl_c1_mono hT h6, vl_c1_mono hT h7⟩
theorem vl_c3_mono {TV TV' : Int → qx_T → Prop} {AR : Nat → List Int} (hT : ∀ v T, TV v T → TV' v T) : ∀ {x : qx_T} {W : rf_N} {h : Int} {vs ρ : List Int}, vl_c3 TV AR x W h vs ρ → vl_c3 TV' AR x W h vs ρ
  | .leaf, _, _, _, _, h => h
  | .inner _ b _ x y, _, _, _, _, h => by
    rcases h with h | ⟨h0, j, v, W', h1, ⟨h2, h3, h4⟩, h7⟩
    · exact Or.inl h
    · exact Or.inr ⟨h0, j, v, W', h1, ⟨h2, h3, hT v x h4⟩, vl_c3_mono hT h7⟩
def dl_lam : List Int → rf_N → rf_N → Prop
  | [], b, W => W = b
  | v :: vs, b, W => ∃ (j : Nat) (W' : rf_N), W = rf_n j 0 v W' .leaf ∧ dl_lam vs b W'
/-- the ARGs put in -/
def dl_gs (k base x5 : Int) (Ts : List qx_T) (G : rf_N) (u : sx_S) : Prop := True → ∀ (i : Nat) g, (vx_el G)[i]? = some g → (∃ c c' : Int, base + x5 ≤ c ∧ c' ≤ u.1 11 8 ∧ dl_nb c c' g) ∧ (k = 3 → ∃ j, g = rf_n j 2 (base + (i : Int)) .leaf .leaf) ∧ (k ≠ 3 → vx_sg g ∧ ∀ T, Ts[i]? = some T → ∀ ρ : List Int, (∀ z ∈ ρ, z < base + x5) → vl_c1 (dl_TV u) T g 2 (base + (i : Int)) .leaf ρ)
/-- what complete makes -/
def dl_sem (s t : sx_S) (x : qx_T) (W : rf_N) (k h : Int) (f : rf_N) : Prop := True → (∀ lo0, lo0 ≤ s.1 11 8 → (k ≠ 3 → dl_nb lo0 (s.1 11 8) f) → dl_nb lo0 (t.1 11 8) W) ∧ (k ≠ 3 → ∀ ρ : List Int, (∀ z ∈ ρ, z < s.1 11 8) → vl_c1 (dl_TV t) x W k h f ρ) ∧ (k = 3 → ∀ (AR : Nat → List Int) (ρ : List Int), dl_ar AR W → (∀ z ∈ ρ, z < s.1 11 8) → vl_c3 (dl_TV t) AR x W h (dz_hs f) ρ) ∧ vx_sg W
theorem dl_TV_mono {s t : sx_S} (hF : cx_F [(11, 17)] s t) (h8 : s.1 11 8 ≤ t.1 11 8) (h17 : ∀ j : Nat, (j : Int) < s.1 11 8 → t.2.1 17 j = s.2.1 17 j) : ∀ v T, dl_TV s v T → dl_TV t v T := fun v T ⟨h1, h2, h3⟩ => ⟨h1, by omega, by
  rw [h17 v.toNat (by omega)]
  exact dz_is_F hF h3⟩
theorem dl_gs_mono {k base x5 : Int} {Ts : List qx_T} {G : rf_N} {s t : sx_S} (hF : cx_F [(11, 17)] s t) (h8 : s.1 11 8 ≤ t.1 11 8) (h17 : ∀ j : Nat, (j : Int) < s.1 11 8 → t.2.1 17 j = s.2.1 17 j) (h : dl_gs k base x5 Ts G s) : dl_gs k base x5 Ts G t := fun _ i g hg => by
  obtain ⟨⟨c, c', h1, h2, h3⟩, h4, h5⟩ := h trivial i g hg
  exact ⟨⟨c, c', h1, by omega, h3⟩, h4, fun q => ⟨(h5 q).1, fun T hT ρ hρ => vl_c1_mono (dl_TV_mono hF h8 h17) ((h5 q).2 T hT ρ hρ)⟩⟩
theorem dl_at1 {u : sx_S} {y : qx_T} {z : Int} (h : dx_is u y z) (hz : z < 2 ∨ u.1 8 2 ≤ z) : qx_at y = 1 := by
  cases y with
  | leaf => rfl
  | inner j k _ a b =>
    obtain ⟨_, h⟩ := h
    rcases h with ⟨h1, _⟩ | ⟨_, h2, _⟩
    · rw [h1]
      rfl
    · omega
theorem vx_nb_snoc {V : Int → Prop} {g : rf_N} (hg : vx_nb g V) : ∀ {f : rf_N}, vx_nb f V → vx_nb (rf_snoc f g) V
  | .leaf, _ => hg
  | .inner j q u F X, ⟨h1, h2⟩ => ⟨h1, vx_nb_snoc hg h2⟩
theorem vx_nb_row {V : Int → Prop} : ∀ {G : rf_N}, (∀ g ∈ vx_el G, vx_nb g V) → vx_nb G V
  | .leaf, _ => trivial
  | .inner j q u F X, h => ⟨(h _ List.mem_cons_self).1, vx_nb_row (fun g hg => h g (List.mem_cons_of_mem _ hg))⟩
theorem dl_mk1 {TV : Int → qx_T → Prop} {y : qx_T} (hy : qx_at y = 1) {a0 : Nat} {k h : Int} : ∀ {Ts : List qx_T} {bs : List Int} {G f W : rf_N} {ρ : List Int} {hi : Int}, bs.length = Ts.length → (vx_el G).length = Ts.length → bs.Pairwise (· < ·) → (∀ z ∈ ρ, ∀ b ∈ bs, z < b) → (∀ b ∈ bs, 0 ≤ b ∧ b < hi) → (∀ z ∈ ρ, z < hi) → (∀ (i : Nat) b T, bs[i]? = some b → Ts[i]? = some T → TV b T) → (∀ (i : Nat) g b T, (vx_el G)[i]? = some g → bs[i]? = some b → Ts[i]? = some T → vx_sg g ∧ ∀ ρ : List Int, (∀ z ∈ ρ, z < hi) → vl_c1 TV T g 2 b .leaf ρ) → dl_lam bs (rf_n a0 k h (rf_snoc f G) .leaf) W → vl_c1 TV (dz_as Ts y) W k h f ρ
  | [], [], G, f, W, ρ, hi, _, hG, _, _, _, _, _, _, hW => by
    have e : G = .leaf := by
      cases G with
      | leaf => rfl
      | inner j q u F X =>
        have hG' : (vx_el X).length + 1 = 0 := hG
        omega
    subst e
    rw [rf_snoc_leaf] at hW
    have hW' : W = rf_n a0 k h f .leaf := hW
    cases y with
    | leaf => exact ⟨a0, hW'⟩
    | inner j b _ x z =>
      cases b with
      | true => exact Or.inl ⟨rfl, a0, hW'⟩
      | false =>
        have h1 : qx_at x + qx_at z = 1 := hy
        have := qx_at_pos x
        have := qx_at_pos z
        omega
  | [], _ :: _, _, _, _, _, _, h, _, _, _, _, _, _, _, _ => by cases h
  | _ :: _, [], _, _, _, _, _, h, _, _, _, _, _, _, _, _ => by cases h
  | T :: Ts, b :: bs, G, f, W, ρ, hi, hl, hG, hp, hρ, hb, hρh, hTV, hg, ⟨j, W', e, hW⟩ => by
    cases G with
    | leaf =>
      rw [List.length_cons] at hG
      have hG' : 0 = Ts.length + 1 := hG
      omega
    | inner gj gq gu gF gX =>
      rw [List.length_cons, List.length_cons] at hl
      have hG' : (vx_el gX).length + 1 = Ts.length + 1 := hG
      obtain ⟨p1, p2⟩ := List.pairwise_cons.mp hp
      obtain ⟨g1, g2⟩ := hg 0 (.inner gj gq () gF .leaf) b T rfl rfl rfl
      have bb := hb b List.mem_cons_self
      have hρ2 : ∀ z ∈ b :: ρ, z < hi := fun z hz => by
        rcases List.mem_cons.mp hz with rfl | hz
        · exact bb.2
        · exact hρh z hz
      have es : rf_snoc f (.inner gj gq gu gF gX) = rf_snoc (rf_snoc f (.inner gj gq () gF .leaf)) gX := by
        rw [rf_snoc_assoc]
        rfl
      rw [es] at hW
      refine Or.inr ⟨⟨rfl, rfl⟩, j, b, .inner gj gq () gF .leaf, W', e, ⟨fun z => ?_, bb.1, hTV 0 b T rfl rfl⟩, g1, g2 _ hρ2, ?_⟩
      · have := hρ b z b List.mem_cons_self
        omega
      · exact dl_mk1 hy (by omega) (by omega) p2 (fun z hz c hc => by
          rcases List.mem_cons.mp hz with rfl | hz
          · exact p1 c hc
          · exact hρ z hz c (List.mem_cons_of_mem _ hc)) (fun c hc => hb c (List.mem_cons_of_mem _ hc)) hρ2 (fun i c T' h1 h2 => hTV (i + 1) c T' (by rw [List.getElem?_cons_succ]; exact h1) (by rw [List.getElem?_cons_succ]; exact h2)) (fun i g c T' h0 h1 h2 => hg (i + 1) g c T' (by show (_ :: vx_el gX)[i + 1]? = _; rw [List.getElem?_cons_succ]; exact h0) (by rw [List.getElem?_cons_succ]; exact h1) (by rw [List.getElem?_cons_succ]; exact h2)) hW
theorem dl_mk3 {TV : Int → qx_T → Prop} {AR : Nat → List Int} {y : qx_T} (hy : qx_at y = 1) {a0 : Nat} {h : Int} {F : rf_N} : ∀ {Ts : List qx_T} {bs : List Int} {W : rf_N} {vs ρ : List Int}, bs.length = Ts.length → AR a0 = vs ++ bs → bs.Pairwise (· < ·) → (∀ z ∈ ρ, ∀ b ∈ bs, z < b) → (∀ b ∈ bs, 0 ≤ b) → (∀ (i : Nat) b T, bs[i]? = some b → Ts[i]? = some T → TV b T) → dl_lam bs (rf_n a0 3 h F .leaf) W → vl_c3 TV AR (dz_as Ts y) W h vs ρ
  | [], [], W, vs, ρ, _, hA, _, _, _, _, hW => by
    have hW' : W = rf_n a0 3 h F .leaf := hW
    rw [List.append_nil] at hA
    cases y with
    | leaf => exact ⟨a0, F, hW', hA⟩
    | inner j b _ x z =>
      cases b with
      | true => exact Or.inl ⟨rfl, a0, F, hW', hA⟩
      | false =>
        have h1 : qx_at x + qx_at z = 1 := hy
        have := qx_at_pos x
        have := qx_at_pos z
        omega
  | [], _ :: _, _, _, _, h, _, _, _, _, _, _ => by cases h
  | _ :: _, [], _, _, _, h, _, _, _, _, _, _ => by cases h
  | T :: Ts, b :: bs, W, vs, ρ, hl, hA, hp, hρ, hb, hTV, ⟨j, W', e, hW⟩ => by
    rw [List.length_cons, List.length_cons] at hl
    obtain ⟨p1, p2⟩ := List.pairwise_cons.mp hp
    refine Or.inr ⟨⟨rfl, rfl⟩, j, b, W', e, ⟨fun z => ?_, hb b List.mem_cons_self, hTV 0 b T rfl rfl⟩, ?_⟩
    · have := hρ b z b List.mem_cons_self
      omega
    · exact dl_mk3 hy (by omega) (by rw [hA, List.append_assoc]; rfl) p2 (fun z hz c hc => by
        rcases List.mem_cons.mp hz with rfl | hz
        · exact p1 c hc
        · exact hρ z hz c (List.mem_cons_of_mem _ hc)) (fun c hc => hb c (List.mem_cons_of_mem _ hc)) (fun i c T' h1 h2 => hTV (i + 1) c T' (by rw [List.getElem?_cons_succ]; exact h1) (by rw [List.getElem?_cons_succ]; exact h2)) hW
theorem dl_lam_nb {b : rf_N} : ∀ {bs : List Int} {W : rf_N} {V : Int → Prop}, dl_lam bs b W → bs.Pairwise (· < ·) → (∀ c ∈ bs, 0 ≤ c ∧ ¬ V c) → vx_nb b (fun z => z ∈ bs ∨ V z) → vx_nb W V
  | [], W, V, h, _, _, hb => by
    have h' : W = b := h
    rw [h']
    exact vx_nb_mono (fun z hz => Or.inr hz) hb
  | c :: bs, W, V, ⟨j, W', e, h⟩, hp, hc, hb => by
    obtain ⟨p1, p2⟩ := List.pairwise_cons.mp hp
    rw [e]
    refine ⟨Or.inl ⟨rfl, hc c List.mem_cons_self, dl_lam_nb h p2 (fun d hd => ⟨(hc d (List.mem_cons_of_mem _ hd)).1, ?_⟩) (vx_nb_mono (fun z hz => ?_) hb)⟩, trivial⟩
    · rintro (q | q)
      · have := p1 d hd
        have q' : d = c := q
        omega
      · exact (hc d (List.mem_cons_of_mem _ hd)).2 q
    · rcases hz with hz | hz | hz
      · exact Or.inl (List.mem_cons_of_mem _ hz)
      · have hz' : z = c := hz
        rw [hz']
        exact Or.inl List.mem_cons_self
      · exact Or.inr hz
theorem dl_lam_ar {AR : Nat → List Int} {a0 : Nat} {h : Int} {F : rf_N} : ∀ {bs : List Int} {W : rf_N}, dl_lam bs (rf_n a0 3 h F .leaf) W → dl_ar AR W → AR a0 = dz_hs F
  | [], W, e, h => by
    have e' : W = rf_n a0 3 _ F .leaf := e
    rw [e'] at h
    exact h.1 rfl
  | c :: bs, W, ⟨j, W', e, h'⟩, h => by
    rw [e] at h
    exact dl_lam_ar h' (h.2.1 vx_03)
theorem dz_bs_get {b : Int} {n i : Nat} {c : Int} (h : (dz_bs b n)[i]? = some c) : c = b + (i : Int) ∧ i < n := by
  unfold dz_bs at h
  rw [List.getElem?_map] at h
  have hi : i < n := by
    apply Classical.byContradiction
    intro q
    rw [List.getElem?_eq_none (by rw [List.length_range]; omega)] at h
    cases h
  rw [List.getElem?_range hi] at h
  exact ⟨(Option.some.inj h).symm, hi⟩
theorem dz_bs_mem {b : Int} {n : Nat} {c : Int} (h : c ∈ dz_bs b n) : b ≤ c ∧ c < b + (n : Int) := by
  obtain ⟨i, hi⟩ := List.mem_iff_getElem?.mp h
  obtain ⟨e, hl⟩ := dz_bs_get hi
  omega
theorem dz_bs_pw (b : Int) : ∀ n : Nat, (dz_bs b n).Pairwise (· < ·)
  | 0 => List.Pairwise.nil
  | n + 1 => by
    rw [dz_bs_s]
    refine List.pairwise_append.mpr ⟨dz_bs_pw b n, List.pairwise_cons.mpr ⟨fun _ h => absurd h List.not_mem_nil, List.Pairwise.nil⟩, fun x hx y hy => ?_⟩
    have := dz_bs_mem hx
    rw [List.mem_singleton.mp hy]
    omega
/-- put together -/
theorem dl_fin {s t : sx_S} {x y : qx_T} {Ts : List qx_T} {a0 : Nat} {k h : Int} {f G W : rf_N} (h0 : 0 ≤ s.1 11 8) (hx : x = dz_as Ts y) (hy : qx_at y = 1) (hk : k ≠ 0) (hG : rf_len G = Ts.length) (hgs : dl_gs k (s.1 11 8) (Ts.length : Int) Ts G t) (hTs : ∀ (i : Nat) T, Ts[i]? = some T → dx_is t T (t.2.1 17 (s.1 11 8 + (i : Int)).toNat)) (h8 : s.1 11 8 + (Ts.length : Int) ≤ t.1 11 8) (hW : dl_lam (dz_bs (s.1 11 8) Ts.length) (rf_n a0 k h (rf_snoc f G) .leaf) W) : dl_sem s t x W k h f := fun _ => by
  have hTV : ∀ (i : Nat) b T, (dz_bs (s.1 11 8) Ts.length)[i]? = some b → Ts[i]? = some T → dl_TV t b T := fun i b T h1 h2 => by
    obtain ⟨e, hl⟩ := dz_bs_get h1
    rw [e]
    exact ⟨by omega, by omega, hTs i T h2⟩
  have lb := dz_bs_len (s.1 11 8) Ts.length
  refine ⟨fun lo0 hlo hf => ?_, fun k3 ρ hρ => ?_, fun k3 AR ρ hA hρ => ?_, ?_⟩
  · refine dl_lam_nb hW (dz_bs_pw _ _) (fun c hc => by have := dz_bs_mem hc; exact ⟨by omega, fun q => q (by omega)⟩) ⟨?_, trivial⟩
    by_cases k3 : k = 3
    · exact Or.inr (Or.inr k3)
    · refine Or.inr (Or.inl ⟨hk, k3, vx_nb_snoc (vx_nb_row (fun g hg => ?_)) (vx_nb_mono (fun z hz => ?_) (hf k3))⟩)
      · obtain ⟨i, hi⟩ := List.mem_iff_getElem?.mp hg
        obtain ⟨⟨c, c', h1, h2, h3⟩, _⟩ := hgs trivial i g hi
        refine vx_nb_mono (fun z hz => ?_) h3
        rcases hz with hz | hz
        · have := dz_bs_mem hz
          omega
        · omega
      · rcases hz with hz | hz
        · have := dz_bs_mem hz
          omega
        · omega
  · rw [hx]
    refine dl_mk1 (hi := s.1 11 8 + (Ts.length : Int)) hy lb (by rw [vx_el_len, hG]) (dz_bs_pw _ _) (fun z hz b hb => by have := hρ z hz; have := dz_bs_mem hb; omega) (fun b hb => by have := dz_bs_mem hb; omega) (fun z hz => by have := hρ z hz; omega) hTV (fun i g b T h1 h2 h3 => ?_) hW
    obtain ⟨_, _, g3⟩ := hgs trivial i g h1
    obtain ⟨e, _⟩ := dz_bs_get h2
    rw [e]
    exact ⟨(g3 k3).1, (g3 k3).2 T h3⟩
  · subst k3
    rw [hx]
    refine dl_mk3 hy lb ?_ (dz_bs_pw _ _) (fun z hz b hb => by have := hρ z hz; have := dz_bs_mem hb; omega) (fun b hb => by have := dz_bs_mem hb; omega) hTV hW
    rw [dl_lam_ar hW hA, dz_hs_snoc]
    congr 1
    refine List.ext_getElem? (fun i => ?_)
    by_cases hi : i < Ts.length
    · have hi' : i < (vx_el G).length := by rw [vx_el_len, hG]; exact hi
      obtain ⟨_, g2, _⟩ := hgs trivial i _ (List.getElem?_eq_getElem hi')
      obtain ⟨j, ej⟩ := g2 rfl
      have hh : ∀ {G : rf_N} {i : Nat} {g : rf_N}, (vx_el G)[i]? = some g → ∀ {j : Nat} {v : Int}, g = rf_n j 2 v .leaf .leaf → (dz_hs G)[i]? = some v := by
        intro G
        induction G with
        | leaf => intro i g hg; simp [vx_el] at hg
        | inner gj gq gu gF gX ihF ihX =>
          intro i g hg j v e
          cases i with
          | zero =>
            have e0 : (.inner gj gq () gF .leaf : rf_N) = g := by simpa [vx_el] using hg
            rw [e] at e0
            injection e0 with _ e1
            show some gq.2 = some v
            rw [e1]
          | succ i =>
            have hg' : (vx_el gX)[i]? = some g := by simpa [vx_el] using hg
            show (dz_hs gX)[i]? = some v
            exact ihX hg' e
      rw [hh (List.getElem?_eq_getElem hi') ej]
      unfold dz_bs
      rw [List.getElem?_map, List.getElem?_range hi]
      rfl
    · rw [List.getElem?_eq_none (by rw [dz_hs_len]; omega), List.getElem?_eq_none (by rw [lb]; omega)]
  · cases q : dz_bs (s.1 11 8) Ts.length with
    | nil =>
      rw [q] at hW
      have hW' : W = _ := hW
      exact ⟨_, _, _, _, hW'⟩
    | cons c bs =>
      rw [q] at hW
      obtain ⟨j, W', e, _⟩ := hW
      exact ⟨_, _, _, _, e⟩
/-- what complete leaves -/
def dl_cp (lo : Int) (x : qx_T) (k h : Int) (f : rf_N) (s t : sx_S) (z : Int) (W : rf_N) : Prop := True → W ≠ .leaf ∧ dz_T lo t W z ∧ dz_fr (fun j => (j : Int) < lo) s t ∧ (t.1 11 6 + 2 ≤ s.1 11 6 + 2 * (qx_at x : Int) ∧ s.1 11 8 ≤ t.1 11 8 ∧ t.1 11 8 + 1 ≤ s.1 11 8 + (qx_at x : Int)) ∧ (∀ j : Nat, (j : Int) < s.1 11 8 → t.2.1 17 j = s.2.1 17 j) ∧ dz_sem W k h f (qx_at x) ∧ dl_sem s t x W k h f
/-- with x7 of the ARGs put in -/
def dl_i70 (lo : Int) (x : qx_T) (a0 k h : Int) (f : rf_N) (s : sx_S) (Ts : List qx_T) (y : qx_T) (G : rf_N) (x5 x7 N : Int) (u : sx_S) : Prop := True → x = dz_as Ts y ∧ ((Ts.length : Int) = x5 ∧ x5 ≤ 4 ∧ 0 ≤ x7 ∧ x7 ≤ x5 ∧ (rf_len G : Int) = x7) ∧ dz_T lo u (rf_n a0.toNat k h (rf_snoc f G) .leaf) a0 ∧ dz_fr (fun j => (j : Int) < lo) s u ∧ (s.1 11 6 + x7 ≤ N ∧ N + x7 + 2 * (dz_sm (Ts.drop x7.toNat) : Int) ≤ s.1 11 6 + 2 * (dz_sm Ts : Int)) ∧ (s.1 11 8 + x5 ≤ u.1 11 8 ∧ u.1 11 8 + x7 + (dz_sm (Ts.drop x7.toNat) : Int) ≤ s.1 11 8 + x5 + (dz_sm Ts : Int)) ∧ (∀ j : Nat, (j : Int) < s.1 11 8 → u.2.1 17 j = s.2.1 17 j) ∧ (∀ (i : Nat) T, Ts[i]? = some T → dx_is u T (u.2.1 17 (s.1 11 8 + (i : Int)).toNat)) ∧ (k ≠ 3 → ∀ g, qx_at x ≤ g + 1 → (dz_av G).2 g (dz_bs (s.1 11 8) x7.toNat)) ∧ qx_at y = 1 ∧ dl_gs k (s.1 11 8) x5 Ts G u
def dl_i158 (lo : Int) (x : qx_T) (a0 k h : Int) (f : rf_N) (s : sx_S) (Ts : List qx_T) (y : qx_T) (L : Nat) (G W : rf_N) (x7 x8 : Int) (u : sx_S) : Prop := True → ((L : Int) ≤ 4 ∧ L + 1 ≤ qx_at x ∧ rf_len G = L) ∧ (-1 ≤ x8 ∧ x8 < (L : Int)) ∧ W ≠ .leaf ∧ dz_T lo u W x7 ∧ dz_fr (fun j => (j : Int) < lo) s u ∧ rf_dn (rf_n a0.toNat k h (rf_snoc f G) .leaf) (L - 1 - x8).toNat W ∧ rf_rf (L - 1 - x8).toNat W = (dz_bs (s.1 11 8) L).drop (x8 + 1).toNat ∧ (u.1 11 6 + x8 + 3 ≤ s.1 11 6 + 2 * (qx_at x : Int) ∧ s.1 11 8 ≤ u.1 11 8 ∧ u.1 11 8 + 1 ≤ s.1 11 8 + (qx_at x : Int)) ∧ (∀ j : Nat, (j : Int) < s.1 11 8 → u.2.1 17 j = s.2.1 17 j) ∧ (k ≠ 3 → ∀ g, qx_at x ≤ g + 1 → (dz_av G).2 g (dz_bs (s.1 11 8) L)) ∧ (x = dz_as Ts y ∧ qx_at y = 1 ∧ Ts.length = L) ∧ dl_gs k (s.1 11 8) (Ts.length : Int) Ts G u ∧ (∀ (i : Nat) T, Ts[i]? = some T → dx_is u T (u.2.1 17 (s.1 11 8 + (i : Int)).toNat)) ∧ s.1 11 8 + (Ts.length : Int) ≤ u.1 11 8 ∧ dl_lam ((dz_bs (s.1 11 8) L).drop (x8 + 1).toNat) (rf_n a0.toNat k h (rf_snoc f G) .leaf) W
/-- one ARG more -/
theorem dl_i70_s {lo : Int} {x : qx_T} {a0 k h : Int} {f : rf_N} {s u t : sx_S} {Ts : List qx_T} {y T : qx_T} {G W : rf_N} {x5 x7 N : Int} (hi : dl_i70 lo x a0 k h f s Ts y G x5 x7 N u) (hx : x7 < x5) (hT : Ts[x7.toNat]? = some T) (hF : cx_F [(11, 17)] u t) (h0 : 0 ≤ s.1 11 8) (hW : W ≠ .leaf) (hn : rf_nx W) (hTr : dz_T lo t (rf_n a0.toNat k h (rf_snoc (rf_snoc f G) W) .leaf) a0) (hfr : dz_fr (fun j => (j : Int) < lo) u t) (hN1 : N + 1 ≤ t.1 11 6) (hN2 : t.1 11 6 + 1 ≤ N + 2 * (qx_at T : Int)) (hV1 : u.1 11 8 ≤ t.1 11 8) (hV2 : t.1 11 8 + 1 ≤ u.1 11 8 + (qx_at T : Int)) (h17 : ∀ j : Nat, (j : Int) < u.1 11 8 → t.2.1 17 j = u.2.1 17 j) (hs : k ≠ 3 → ∀ g, qx_at T ≤ g → (dz_av W).1 g [] (s.1 11 8 + x7)) (hg1 : ∃ c c' : Int, s.1 11 8 + x5 ≤ c ∧ c' ≤ t.1 11 8 ∧ dl_nb c c' W) (hg2 : k = 3 → ∃ j, W = rf_n j 2 (s.1 11 8 + x7) .leaf .leaf) (hg3 : k ≠ 3 → vx_sg W ∧ ∀ ρ : List Int, (∀ z ∈ ρ, z < s.1 11 8 + x5) → vl_c1 (dl_TV t) T W 2 (s.1 11 8 + x7) .leaf ρ) : dl_i70 lo x a0 k h f s Ts y (rf_snoc G W) x5 (x7 + 1) (t.1 11 6) t := fun _ => by
  obtain ⟨i1, ⟨i2, i3, i4, i5, i6⟩, i7, i8, ⟨i9, i10⟩, ⟨i11, i12⟩, i13, i14, i15, i16, i17⟩ := hi trivial
  have e7 : (x7 + 1).toNat = x7.toNat + 1 := by omega
  have hd := dz_sm_drop hT
  have hat := dz_as_at y Ts
  have hmem := dz_sm_mem hT
  have hy := qx_at_pos y
  refine ⟨i1, ⟨i2, i3, by omega, by omega, ?_⟩, by rw [← rf_snoc_assoc]; exact hTr, dz_fr_t hfr i8 (fun _ q => q), ⟨by omega, by rw [e7]; omega⟩, ⟨by omega, by rw [e7]; omega⟩, fun j hj => (h17 j (by omega)).trans (i13 j hj), fun i T' hT' => ?_, fun hk g hg => ?_, i16, fun _ i g hg => ?_⟩
  · rw [rf_len_snoc, rf_nx_len hn hW]
    omega
  · have hl : i < Ts.length := (List.getElem?_eq_some_iff.mp hT').1
    rw [h17 _ (by omega)]
    exact dz_is_F hF (i14 i T' hT')
  · rw [e7, dz_bs_s, show (x7.toNat : Int) = x7 by omega]
    rw [i1, hat] at hg
    exact dz_av_app.mpr ⟨_, _, rfl, i15 hk g (by rw [i1, hat]; exact hg), dz_av_one hn (hs hk g (by omega))⟩
  · have lG : (vx_el G).length = x7.toNat := by
      rw [vx_el_len]
      omega
    have eW : vx_el W = [W] := by
      cases W with
      | leaf => exact absurd rfl hW
      | inner wj wq wu wF wX =>
        have hX : wX = .leaf := hn
        subst hX
        rfl
    rw [vl_el_snoc, eW] at hg
    by_cases q : i < (vx_el G).length
    · rw [List.getElem?_append_left q] at hg
      exact dl_gs_mono hF hV1 h17 i17 trivial i g hg
    · rw [List.getElem?_append_right (by omega)] at hg
      have e0 : i - (vx_el G).length = 0 := by
        apply Classical.byContradiction
        intro z
        rw [List.getElem?_eq_none (by rw [List.length_singleton]; omega)] at hg
        cases hg
      rw [e0] at hg
      have eg : W = g := by simpa using hg
      have ei : i = x7.toNat := by omega
      have ex : (i : Int) = x7 := by omega
      subst eg
      rw [ex]
      refine ⟨hg1, hg2, fun k3 => ⟨(hg3 k3).1, fun T' hT' ρ hρ => ?_⟩⟩
      rw [ei, hT] at hT'
      rw [← Option.some.inj hT']
      exact (hg3 k3).2 ρ hρ

theorem st_dl_cp {sL : Nat} {sx : Nat → Int32} (hsL : sL ≤ 3072) (m : Nat) (hm5 : m ≤ 5) {d : Nat} (hd : 3 ≤ d) (h_rec : ∀ m' : Nat, m = m' + 1 → ∀ (lo : Int) (x : qx_T) (a0 a1 a2 k h : Int) (f : rf_N) (s : sx_S) (R : Int → sx_S → Prop), cx_I s → k ≠ 0 → dz_T lo s (rf_n a0.toNat k h f .leaf) a0 → dx_is s x a1 → 2 ≤ s.1 8 2 → qx_at x ≤ m' → 0 ≤ a2 → a2 + ((m' : Nat) : Int) ≤ 5 → (rf_len f : Int) + 1 ≤ s.1 11 6 → s.1 11 6 + 2 * (qx_at x : Int) ≤ 1026 → s.1 11 8 + (qx_at x : Int) ≤ 513 → (∀ z t W, cx_I t → cx_F [(11, 17)] s t → dl_cp lo x k h f s t z W → R z t) → sx_C sL sx (d + 1) 97 [.inr (.inl 11), .inl a0, .inl a1, .inl a2] s R) : ∀ (lo : Int) (x : qx_T) (a0 a1 a2 k h : Int) (f : rf_N) (s : sx_S) (R : Int → sx_S → Prop), cx_I s → k ≠ 0 → dz_T lo s (rf_n a0.toNat k h f .leaf) a0 → dx_is s x a1 → 2 ≤ s.1 8 2 → qx_at x ≤ m → 0 ≤ a2 → a2 + ((m : Nat) : Int) ≤ 5 → (rf_len f : Int) + 1 ≤ s.1 11 6 → s.1 11 6 + 2 * (qx_at x : Int) ≤ 1026 → s.1 11 8 + (qx_at x : Int) ≤ 513 → (∀ z t W, cx_I t → cx_F [(11, 17)] s t → dl_cp lo x k h f s t z W → R z t) → sx_C sL sx (d + 2) 97 [.inr (.inl 11), .inl a0, .inl a1, .inl a2] s R := by
  intro lo x a0 a1 a2 k h f s R hI hk hT hx h2 hm ha2 ham hlen hnd hvr hK
  have h0 := hI.fld 11 6 (by decide) rfl
  have h8 := hI.fld 11 8 (by decide) rfl
  have hxp := qx_at_pos x
  obtain ⟨z1, z2, z3, z4⟩ := dz_T_a0 hT
  refine sx_methL (wr := true) (n := 400) (n' := 400) (stop := [(15, [0, 1, 3, 4, 5, 6, 7]), (70, [0, 1, 3, 4, 5, 7]), (110, [0, 1, 3, 4, 5, 7, 8, 9]), (158, [0, 4, 7, 8])]) (fun nn pc ls u => cx_I u ∧ cx_F [(11, 17)] s u ∧ ((pc = 15 ∧ ∃ (x5 x6 : Int) (Ts : List qx_T) (y : qx_T), ls = [(0, .inr (.inl 11)), (1, .inl a0), (3, .inl a2), (4, .inl (s.1 11 8)), (5, .inl x5), (6, .inl x6), (7, .inl x5)] ∧ dz_i15 x s Ts y x5 x6 u ∧ nn = (1000 - x5).toNat) ∨ (pc = 70 ∧ ∃ (x5 x7 : Int) (Ts : List qx_T) (y : qx_T) (G : rf_N), ls = [(0, .inr (.inl 11)), (1, .inl a0), (3, .inl a2), (4, .inl (s.1 11 8)), (5, .inl x5), (7, .inl x7)] ∧ dl_i70 lo x a0 k h f s Ts y G x5 x7 (u.1 11 6) u ∧ nn = (500 - 2 * x7).toNat) ∨ (pc = 110 ∧ ∃ (x5 x7 x8 x9 : Int) (Ts : List qx_T) (y : qx_T) (G : rf_N), ls = [(0, .inr (.inl 11)), (1, .inl a0), (3, .inl a2), (4, .inl (s.1 11 8)), (5, .inl x5), (7, .inl x7), (8, .inl x8), (9, .inl x9)] ∧ x7 < x5 ∧ dl_i70 lo x a0 k h f s Ts y G x5 x7 x8 u ∧ dz_T x8 u (rf_n x8.toNat 2 (s.1 11 8 + x7) .leaf .leaf) x8 ∧ u.1 11 6 = x8 + 1 ∧ (∀ j ∈ rf_idx (rf_n a0.toNat k h (rf_snoc f G) .leaf), (j : Int) < x8) ∧ (x9 = 1 ∧ k ≠ 3 ∧ a2 < 4 ∨ x9 = 0 ∧ k = 3) ∧ nn = (499 - 2 * x7).toNat) ∨ (pc = 158 ∧ ∃ (x7 x8 : Int) (Ts : List qx_T) (y : qx_T) (L : Nat) (G W : rf_N), ls = [(0, .inr (.inl 11)), (4, .inl (s.1 11 8)), (7, .inl x7), (8, .inl x8)] ∧ dl_i158 lo x a0 k h f s Ts y L G W x7 x8 u ∧ nn = (x8 + 1).toNat))) hsL (e := eX7_complete) rfl ?_ ?_
  · exact w_cp hI ⟨_, hI, cx_F_refl _ _, Or.inl ⟨rfl, 0, a1, [], x, rfl, fun _ => ⟨rfl, hx, ⟨rfl, by omega⟩, rfl, by omega, dz_fr_refl _ _, fun _ _ => rfl, fun i T q => absurd q (by simp)⟩, rfl⟩⟩
  · rintro nn pc ls u ⟨uI, uF, ⟨rfl, x5, x6, Ts, y, rfl, i15, rfl⟩ | ⟨rfl, x5, x7, Ts, y, G, rfl, i70, rfl⟩ | ⟨rfl, x5, x7, x8, x9, Ts, y, G, rfl, hlt, i70, hP, hN, hdis, h9, rfl⟩ | ⟨rfl, x7, x8, Ts, y, L, G, W, rfl, i158, rfl⟩⟩
    · obtain ⟨i1, i2, ⟨i3, i4⟩, i5, i6, i7, i8, i9⟩ := i15 trivial
      have u8 : u.1 8 2 = s.1 8 2 := congrFun (uF.same 8 rfl).1 2
      have hr := dx_rng i2 (by omega)
      have hr8 := uI.fld 8 2 (by decide) rfl
      have hat := dz_as_at y Ts
      rw [← i1] at hat
      have hsl := dz_sm_len Ts
      have hy := qx_at_pos y
      refine w_cp_15 (c_dz_isA hsL (d + 1) (by omega)) (c_dz_from hsL (d + 1) (by omega)) (c_dz_to hsL (d + 1) (by omega)) (c_dz_variable2 hsL (d + 1) (by omega)) uI ?_ (by omega) (by omega) ?_ ?_
      · by_cases q : x6 < 2
        · omega
        · obtain ⟨T, w, e, _, _⟩ := dz_arr i2 (by omega) (by omega)
          have e2 : qx_at y = qx_at T + qx_at w := by rw [e]; rfl
          have := qx_at_pos T
          have := qx_at_pos w
          omega
      · intro zz15
        have hy1 : qx_at y = 1 := by
          rcases zz15 with q | q | q
          · omega
          · exact dl_at1 i2 (Or.inl q)
          · exact dl_at1 i2 (Or.inr q)
        refine ⟨(500 - 2 * (0 : Int)).toNat, by omega, uI, uF, Or.inr (Or.inl ⟨rfl, x5, 0, Ts, y, .leaf, rfl, fun _ => ⟨i1, ⟨i3, by omega, by omega, by omega, rfl⟩, ?_, dz_fr_w i7 (fun _ _ => trivial), ⟨by omega, ?_⟩, ⟨by omega, ?_⟩, i8, i9, fun _ g _ => rfl, hy1, fun _ i g hg => absurd hg (by simp [vx_el])⟩, rfl⟩)⟩
        · rw [rf_snoc_leaf]
          exact dz_T_fr hT i7 (fun _ _ => trivial)
        · show _ + 2 * ((dz_sm Ts : Nat) : Int) ≤ _
          omega
        · show _ + ((dz_sm Ts : Nat) : Int) ≤ _
          omega
      · intro q1 q2 q3 t t1 t2 t3 w hw
        obtain ⟨T, w', e, e1, e2⟩ := dz_arr i2 q2 q3
        obtain ⟨v1, v2, v3, v4, v5⟩ := t3 trivial
        have tF := cx_F_step t2 rfl uF
        refine ⟨(1000 - (x5 + 1)).toNat, by omega, t1, tF, Or.inl ⟨rfl, x5 + 1, w, Ts ++ [T], w', rfl, fun _ => ⟨?_, ?_, ⟨?_, by omega⟩, by omega, by omega, dz_fr_t (dz_fr_V1 t3) i7 (fun _ q => q), fun j hj => (v5 j (by omega)).trans (i8 j hj), fun i T' hT' => ?_⟩, rfl⟩⟩
        · rw [i1, e, dz_as_snoc]
        · rw [hw, (t2.same 10 rfl).2]
          exact dz_is_F t2 e2
        · rw [List.length_append, List.length_singleton]
          omega
        · rcases Nat.lt_or_ge i Ts.length with q | q
          · rw [List.getElem?_append_left q] at hT'
            rw [v5 _ (by omega)]
            exact dz_is_F t2 (i9 i T' hT')
          · have hl : i < (Ts ++ [T]).length := (List.getElem?_eq_some_iff.mp hT').1
            rw [List.length_append, List.length_singleton] at hl
            have ei : i = Ts.length := by omega
            subst ei
            have eT : T' = T := by simpa using hT'.symm
            rw [eT, show (s.1 11 8 + (Ts.length : Int)).toNat = (u.1 11 8).toNat by omega, v4]
            exact dz_is_F t2 e1
    · obtain ⟨i1, ⟨i2, i3, i4, i5, i6⟩, i7, i8, ⟨i9, i10⟩, ⟨i11, i12⟩, i13, i14, i15, i16, i17⟩ := i70 trivial
      obtain ⟨y1, y2, y3, y4⟩ := dz_T_a0 i7
      have hat := dz_as_at y Ts
      rw [← i1] at hat
      have hsl := dz_sm_len Ts
      have hy := qx_at_pos y
      have hlt := dz_T_lt i7
      refine w_cp_70 (c_dz_kind hsL (d + 1) (by omega)) (c_dz_node2 hsL (d + 1) (by omega)) uI ⟨y1, y2⟩ (by omega) (by omega) (by omega) (by omega) ?_ ?_ ?_ ?_
      · intro q
        obtain ⟨T, hTT⟩ := dz_get (l := Ts) (j := x7.toNat) (by omega)
        have := dz_sm_drop hTT
        have := qx_at_pos T
        omega
      · intro q
        subst q
        refine ⟨_, ?_, uI, uF, Or.inr (Or.inr (Or.inr ⟨rfl, a0, x7 - 1, Ts, y, Ts.length, G, rf_n a0.toNat k h (rf_snoc f G) .leaf, rfl, fun _ => ⟨⟨by omega, by omega, by omega⟩, ⟨by omega, by omega⟩, nofun, i7, i8, ?_, ?_, ⟨by omega, by omega, by omega⟩, i13, ?_, ⟨i1, i16, rfl⟩, by rw [i2]; exact i17, i14, by omega, ?_⟩, rfl⟩))⟩
        · omega
        · rw [show ((Ts.length : Int) - 1 - (x7 - 1)).toNat = 0 by omega]
          rfl
        · rw [show ((Ts.length : Int) - 1 - (x7 - 1)).toNat = 0 by omega, List.drop_eq_nil_of_le (by rw [dz_bs_len]; omega)]
          rfl
        · rw [show Ts.length = x7.toNat by omega]
          exact i15
        · rw [List.drop_eq_nil_of_le (by rw [dz_bs_len]; omega)]
          rfl
      · intro q q3 q4 t t1 t2 t3
        obtain ⟨n1, n2, n3, n4, n5⟩ := t3 trivial
        refine ⟨(499 - 2 * x7).toNat, by omega, t1, cx_F_step t2 rfl uF, Or.inr (Or.inr (Or.inl ⟨rfl, x5, x7, u.1 11 6, 1, Ts, y, G, rfl, q, fun _ => ⟨i1, ⟨i2, i3, i4, i5, i6⟩, dz_T_fr i7 (dz_fr_N1 t3) hlt, dz_fr_t (dz_fr_N1 t3) i8 (fun j hj => by omega), ⟨i9, i10⟩, ⟨by omega, by omega⟩, fun j hj => (congrFun n3 j).trans (i13 j hj), fun i T' hT' => ?_, i15, i16, dl_gs_mono t2 (by omega) (fun j _ => congrFun n3 j) i17⟩, dz_T_new t3 (by omega) (by omega) (by omega), n1, hlt, Or.inl ⟨rfl, by omega, q4⟩, rfl⟩))⟩
        rw [n3]
        exact dz_is_F t2 (i14 i T' hT')
      · intro q q3 t t1 t2 t3
        obtain ⟨n1, n2, n3, n4, n5⟩ := t3 trivial
        have k3 : k = 3 := by omega
        refine ⟨(499 - 2 * x7).toNat, by omega, t1, cx_F_step t2 rfl uF, Or.inr (Or.inr (Or.inl ⟨rfl, x5, x7, u.1 11 6, 0, Ts, y, G, rfl, q, fun _ => ⟨i1, ⟨i2, i3, i4, i5, i6⟩, dz_T_fr i7 (dz_fr_N1 t3) hlt, dz_fr_t (dz_fr_N1 t3) i8 (fun j hj => by omega), ⟨i9, i10⟩, ⟨by omega, by omega⟩, fun j hj => (congrFun n3 j).trans (i13 j hj), fun i T' hT' => ?_, i15, i16, dl_gs_mono t2 (by omega) (fun j _ => congrFun n3 j) i17⟩, dz_T_new t3 (by omega) (by omega) (by omega), n1, hlt, Or.inr ⟨rfl, k3⟩, rfl⟩))⟩
        rw [n3]
        exact dz_is_F t2 (i14 i T' hT')
    · obtain ⟨i1, ⟨i2, i3, i4, i5, i6⟩, i7, i8, ⟨i9, i10⟩, ⟨i11, i12⟩, i13, i14, i15, i16, i17⟩ := i70 trivial
      obtain ⟨y1, y2, y3, y4⟩ := dz_T_a0 i7
      have hat := dz_as_at y Ts
      rw [← i1] at hat
      have hy := qx_at_pos y
      obtain ⟨T, hTT⟩ := dz_get (l := Ts) (j := x7.toNat) (by omega)
      have hdr := dz_sm_drop hTT
      have hTm := dz_sm_mem hTT
      have hdl := dz_sm_len (Ts.drop (x7.toNat + 1))
      rw [List.length_drop] at hdl
      have hTp := qx_at_pos T
      have ub := uI.fld 11 6 (by decide) rfl
      have hTi := i14 _ T hTT
      rw [show ((x7.toNat : Nat) : Int) = x7 by omega] at hTi
      have u8 : u.1 8 2 = s.1 8 2 := congrFun (uF.same 8 rfl).1 2
      have hl1 : (rf_len (rf_snoc f G) : Int) + 1 ≤ x8 := by rw [rf_len_snoc]; omega
      rcases h9 with ⟨rfl, k3, a4⟩ | ⟨rfl, k3⟩
      · obtain ⟨m', rfl⟩ : ∃ m', m = m' + 1 := ⟨m - 1, by omega⟩
        refine w_cp_110a (Zc := fun w t => cx_I t ∧ cx_F [(11, 17)] u t ∧ ∃ W, dl_cp x8 T 2 (s.1 11 8 + x7) .leaf u t w W) (Za := fun t => cx_I t ∧ cx_F [(11, 17)] s t ∧ ∃ G', dl_i70 lo x a0 k h f s Ts y G' x5 (x7 + 1) (t.1 11 6) t) (c_dz_vt hsL (d + 1) (by omega)) uI (by omega) (by omega) (by omega) ?_ ?_ ?_
        · intro K hK'
          exact h_rec m' rfl x8 T x8 _ (a2 + 1) 2 (s.1 11 8 + x7) .leaf u K uI (by omega) hP hTi (by omega) (by omega) (by omega) (by omega) (by show (0 : Int) + 1 ≤ _; omega) (by omega) (by omega) (fun z t W t1 t2 t3 => hK' z t ⟨t1, t2, W, t3⟩)
        · rintro w t ⟨t1, t2, W, t3⟩ K hK'
          obtain ⟨c1, c2, c3, ⟨c4, c5, c6⟩, c7, c8, c9⟩ := t3 trivial
          have hge := (c2 trivial).2.2.2.1
          have htu : u.1 11 6 ≤ t.1 11 6 := (c3 trivial).1
          have hT2 := dz_T_fr i7 c3 hdis
          refine c_dz_append hsL (d + 1) (by omega) lo a0 w k h (rf_snoc f G) W t K t1 hk hT2 (dz_T_lo c2 (by omega)) c1 (fun j hj hj' => ?_) (by omega) (fun v v1 v2 ⟨v3, v4⟩ v5 v6 => ?_)
          · have e1 := hdis j hj
            have e2 := hge j hj'
            omega
          · refine hK' v ⟨v1, cx_F_step v2 rfl (cx_F_step t2 rfl uF), _, dl_i70_s i70 hlt hTT (cx_F_step v2 rfl t2) (by omega) c1 (c2 trivial).2.2.2.2 v5 (dz_fr_t v6 (dz_fr_w c3 (fun j hj => by omega)) (fun j hj hj' => ?_)) (by rw [v3]; omega) (by rw [v3]; omega) (by rw [v3]; omega) (by rw [v3]; omega) (fun j hj => by rw [v4]; exact c7 j hj) (fun _ g hg => ?_) ⟨u.1 11 8, v.1 11 8, by omega, Int.le_refl _, by rw [v3]; exact (c9 trivial).1 (u.1 11 8) (Int.le_refl _) (fun _ => trivial)⟩ (fun q => absurd q k3) (fun _ => ⟨(c9 trivial).2.2.2, fun ρ hρ => vl_c1_mono (dl_TV_mono v2 (by rw [v3]; exact Int.le_refl _) (fun j _ => by rw [v4])) ((c9 trivial).2.1 (by decide) ρ (fun z hz => by have := hρ z hz; omega))⟩)⟩
            · have := (hT2 trivial).2.2.2.1 j hj'
              omega
            · obtain ⟨g', rfl⟩ : ∃ g', g = g' + 1 := ⟨g - 1, by omega⟩
              exact (c8 trivial).2 g' [] rfl (by omega) (by show 0 + _ ≤ 5; omega) rfl
        · rintro t ⟨t1, t2, G', t3⟩
          exact ⟨(500 - 2 * (x7 + 1)).toNat, by omega, t1, t2, Or.inr (Or.inl ⟨rfl, x5, x7 + 1, Ts, y, G', rfl, t3, rfl⟩)⟩
      · refine w_cp_110b (Za := fun t => cx_I t ∧ cx_F [(11, 17)] s t ∧ ∃ G', dl_i70 lo x a0 k h f s Ts y G' x5 (x7 + 1) (t.1 11 6) t) (by omega) ?_ ?_
        · intro K hK'
          have hge := (hP trivial).2.2.2.1
          refine c_dz_append hsL (d + 1) (by omega) lo a0 x8 k h (rf_snoc f G) _ u K uI hk i7 (dz_T_lo hP (by omega)) nofun (fun j hj hj' => ?_) (by omega) (fun v v1 v2 ⟨v3, v4⟩ v5 v6 => ?_)
          · have e1 := hdis j hj
            have e2 := hge j hj'
            omega
          · refine hK' v ⟨v1, cx_F_step v2 rfl uF, _, dl_i70_s (W := rf_n x8.toNat 2 (s.1 11 8 + x7) .leaf .leaf) i70 hlt hTT v2 (by omega) nofun rfl v5 (dz_fr_w v6 (fun j hj hj' => ?_)) (by rw [v3]; omega) (by rw [v3]; omega) (by rw [v3]; omega) (by rw [v3]; omega) (fun j hj => by rw [v4]) (fun q => absurd k3 q) ⟨s.1 11 8 + x5, v.1 11 8, Int.le_refl _, Int.le_refl _, ⟨Or.inr (Or.inl ⟨by show (2 : Int) ≠ 0; decide, by show (2 : Int) ≠ 3; decide, trivial⟩), trivial⟩⟩ (fun _ => ⟨_, rfl⟩) (fun q => absurd k3 q)⟩
            have := (i7 trivial).2.2.2.1 j hj'
            omega
        · rintro t ⟨t1, t2, G', t3⟩
          exact ⟨(500 - 2 * (x7 + 1)).toNat, by omega, t1, t2, Or.inr (Or.inl ⟨rfl, x5, x7 + 1, Ts, y, G', rfl, t3, rfl⟩)⟩
    · obtain ⟨⟨j1, j2, j3⟩, ⟨j4, j5⟩, j6, j7, j8, j9, j10, ⟨j11, j12, j13⟩, j14, j15, ⟨j16, j17, j18⟩, j19, j20, j21, j22⟩ := i158 trivial
      have ub := uI.fld 11 6 (by decide) rfl
      have hw : 0 ≤ x7 ∧ x7 < u.1 11 6 ∧ lo ≤ x7 := by
        cases W with
        | leaf => exact absurd rfl j6
        | inner wj wk wu wf wx =>
          obtain ⟨⟨⟨q1, q2⟩, _⟩, _, _, q3, _⟩ := j7 trivial
          have := q3 _ List.mem_cons_self
          omega
      refine w_cp_158 (c_dz_lambda hsL (d + 1) (by omega)) uI (by omega) (by omega) (by omega) (by omega) ?_ ?_
      · intro e
        subst e
        refine hK _ _ W uI uF (fun _ => ⟨j6, j7, j8, ⟨by omega, j12, j13⟩, j14, ?_, ?_⟩)
        · rw [show ((L : Int) - 1 - -1).toNat = L by omega] at j9 j10
          exact dz_sem_mk hk j9 j10 j3 j2 j15
        · subst j18
          exact dl_fin (a0 := a0.toNat) (by omega) j16 j17 hk j3 j19 j20 j21 j22
      · intro hx8 t t1 t2 t3
        obtain ⟨n1, n2, n3, n4, n5⟩ := t3 trivial
        refine ⟨_, ?_, t1, cx_F_step t2 rfl uF, Or.inr (Or.inr (Or.inr ⟨rfl, _, x8 - 1, Ts, y, L, G, rf_n (u.1 11 6).toNat 0 (s.1 11 8 + x8) W .leaf, rfl, fun _ => ⟨⟨j1, j2, j3⟩, ⟨by omega, by omega⟩, nofun, dz_T_lam t3 (by omega) (by omega) (by omega) j7, dz_fr_t (dz_fr_N1 t3) j8 (fun j hj => by omega), ?_, ?_, ⟨by omega, by omega, by omega⟩, fun j hj => (congrFun n3 j).trans (j14 j hj), j15, ⟨j16, j17, j18⟩, dl_gs_mono t2 (by omega) (fun j _ => congrFun n3 j) j19, fun i T hT' => by rw [n3]; exact dz_is_F t2 (j20 i T hT'), by omega, ?_⟩, rfl⟩))⟩
        · omega
        · rw [show ((L : Int) - 1 - (x8 - 1)).toNat = ((L : Int) - 1 - x8).toNat + 1 by omega]
          exact ⟨rfl, j9⟩
        · rw [show ((L : Int) - 1 - (x8 - 1)).toNat = ((L : Int) - 1 - x8).toNat + 1 by omega]
          show (s.1 11 8 + x8) :: rf_rf _ W = _
          rw [j10, show (x8 - 1 + 1).toNat = x8.toNat by omega, dz_bs_drop _ (show x8.toNat < L by omega), show (x8 + 1).toNat = x8.toNat + 1 by omega, show ((x8.toNat : Nat) : Int) = x8 by omega]
        · rw [show (x8 - 1 + 1).toNat = x8.toNat by omega, dz_bs_drop _ (show x8.toNat < L by omega), show ((x8.toNat : Nat) : Int) = x8 by omega]
          refine ⟨_, W, rfl, ?_⟩
          rw [show x8.toNat + 1 = (x8 + 1).toNat by omega]
          exact j22
theorem c_dl_cp {sL : Nat} {sx : Nat → Int32} (hsL : sL ≤ 3072) : ∀ m : Nat, m ≤ 5 → ∀ d, 5 + m ≤ d → ∀ (lo : Int) (x : qx_T) (a0 a1 a2 k h : Int) (f : rf_N) (s : sx_S) (R : Int → sx_S → Prop), cx_I s → k ≠ 0 → dz_T lo s (rf_n a0.toNat k h f .leaf) a0 → dx_is s x a1 → 2 ≤ s.1 8 2 → qx_at x ≤ m → 0 ≤ a2 → a2 + ((m : Nat) : Int) ≤ 5 → (rf_len f : Int) + 1 ≤ s.1 11 6 → s.1 11 6 + 2 * (qx_at x : Int) ≤ 1026 → s.1 11 8 + (qx_at x : Int) ≤ 513 → (∀ z t W, cx_I t → cx_F [(11, 17)] s t → dl_cp lo x k h f s t z W → R z t) → sx_C sL sx d 97 [.inr (.inl 11), .inl a0, .inl a1, .inl a2] s R := by
  intro m
  induction m with
  | zero =>
    intro hm d hd
    obtain ⟨d, rfl⟩ : ∃ e, d = e + 2 := ⟨d - 2, by omega⟩
    exact st_dl_cp hsL 0 hm (by omega) (fun m' h => absurd h (by omega))
  | succ m ih =>
    intro hm d hd
    obtain ⟨d, rfl⟩ : ∃ e, d = e + 2 := ⟨d - 2, by omega⟩
    exact st_dl_cp hsL (m + 1) hm (by omega) (fun m' h => by
      obtain rfl : m = m' := by omega
      exact ih (by omega) (d + 1) (by omega))
