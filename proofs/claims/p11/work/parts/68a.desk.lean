/-! ===== what is loaded, as the solver wants it: ARGs and arities ===== -/
theorem dv_tr_snoc {A16 : Nat → Int} {AR : Nat → List Int} {g : rf_N} (hg : dv_tr A16 AR g) : ∀ {f : rf_N}, dv_tr A16 AR f → dv_tr A16 AR (rf_snoc f g)
  | .leaf, _ => hg
  | .inner j q u F X, ⟨h1, h2, h3⟩ => ⟨h1, h2, dv_tr_snoc hg h3⟩
theorem dl_dar_snoc {A : Nat → Int} {g : rf_N} : ∀ {f : rf_N}, dz_ar A (rf_snoc f g) → dz_ar A f ∧ dz_ar A g
  | .leaf, h => ⟨trivial, h⟩
  | .inner j q u F X, ⟨h1, h2, h3⟩ => ⟨⟨h1, h2, (dl_dar_snoc h3).1⟩, (dl_dar_snoc h3).2⟩
theorem vl_c1_dar {TV : Int → qx_T → Prop} {A : Nat → Int} : ∀ {x : qx_T} {W : rf_N} {k h : Int} {f : rf_N} {ρ : List Int}, vl_c1 TV x W k h f ρ → dz_ar A W → dz_ar A f
  | .leaf, W, k, h, f, ρ, ⟨j, e⟩, ha => by
    rw [e] at ha
    exact ha.2.1
  | .inner n b _ x y, W, k, h, f, ρ, hc, ha => by
    rcases hc with ⟨_, j, e⟩ | ⟨_, j, v, g, W', e, _, _, _, h5⟩
    · rw [e] at ha
      exact ha.2.1
    · rw [e] at ha
      exact (dl_dar_snoc (vl_c1_dar h5 ha.2.1)).1
theorem vl_c1_sg {TV : Int → qx_T → Prop} {x : qx_T} {W : rf_N} {k h : Int} {f : rf_N} {ρ : List Int} (hc : vl_c1 TV x W k h f ρ) : vx_sg W := by
  cases x with
  | leaf =>
    obtain ⟨j, e⟩ := hc
    exact ⟨_, _, _, _, e⟩
  | inner n b u x y =>
    rcases hc with ⟨_, j, e⟩ | ⟨_, j, v, g, W', e, _⟩
    · exact ⟨_, _, _, _, e⟩
    · exact ⟨_, _, _, _, e⟩
theorem vl_c3_sg {TV : Int → qx_T → Prop} {AR : Nat → List Int} {x : qx_T} {W : rf_N} {h : Int} {vs ρ : List Int} (hc : vl_c3 TV AR x W h vs ρ) : vx_sg W := by
  cases x with
  | leaf =>
    obtain ⟨j, F, e, _⟩ := hc
    exact ⟨_, _, _, _, e⟩
  | inner n b u x y =>
    rcases hc with ⟨_, j, F, e, _⟩ | ⟨_, j, v, W', e, _⟩
    · exact ⟨_, _, _, _, e⟩
    · exact ⟨_, _, _, _, e⟩
theorem vl_c1_tr {TV : Int → qx_T → Prop} {A16 : Nat → Int} {AR : Nat → List Int} : ∀ {x : qx_T} {W : rf_N} {k h : Int} {f : rf_N} {ρ : List Int}, vl_c1 TV x W k h f ρ → (k = 1 ∨ k = 2) → 0 ≤ h → rf_len f + qx_at x ≤ 5 → dz_ar A16 W → dv_tr A16 AR f → dv_tr A16 AR W := by
  have fin : ∀ {j : Nat} {W : rf_N} {k h : Int} {f : rf_N} {m : Nat}, 1 ≤ m → W = rf_n j k h f .leaf → (k = 1 ∨ k = 2) → 0 ≤ h → rf_len f + m ≤ 5 → dz_ar A16 W → dv_tr A16 AR f → dv_tr A16 AR W := by
    intro j W k h f m hm e hk hh hl ha hf
    rw [e] at ha ⊢
    have a1 : A16 j = (rf_len f : Int) := by
      exact ha.1.2.2 (by show k ≠ 0; omega)
    exact ⟨Or.inr (Or.inl ⟨hk, ⟨a1, by omega⟩, hf⟩), hh, trivial⟩
  intro x
  induction x with
  | leaf =>
    rintro W k h f ρ ⟨j, e⟩ hk hh hl ha hf
    exact fin (Nat.le_refl _) e hk hh hl ha hf
  | inner n b u x y ihx ihy =>
    intro W k h f ρ hc hk hh hl ha hf
    rcases hc with ⟨rfl, j, e⟩ | ⟨⟨rfl, rfl⟩, j, v, g, W', e, ⟨_, h6, _⟩, h3, h4, h5⟩
    · exact fin (Nat.le_refl _) e hk hh hl ha hf
    · have ea : qx_at (.inner 0 false u x y) = qx_at x + qx_at y := rfl
      have px := qx_at_pos x
      have py := qx_at_pos y
      rw [e] at ha ⊢
      have a2 : dz_ar A16 W' := ha.2.1
      have ag := (dl_dar_snoc (vl_c1_dar h5 a2)).2
      have lg : rf_len g = 1 := by
        obtain ⟨i, kk, hh', G, rfl⟩ := h3
        rfl
      have tg := ihx h4 (Or.inr rfl) h6 (by show 0 + qx_at x ≤ 5; omega) ag trivial
      exact ⟨Or.inl ⟨rfl, vl_c1_sg h5, ihy h5 hk hh (by rw [rf_len_snoc]; omega) a2 (dv_tr_snoc tg hf)⟩, h6, trivial⟩
theorem vl_c3_tr {TV : Int → qx_T → Prop} {A16 : Nat → Int} {AR : Nat → List Int} : ∀ {x : qx_T} {W : rf_N} {h : Int} {vs ρ : List Int}, vl_c3 TV AR x W h vs ρ → 0 ≤ h → vs.length + qx_at x ≤ 5 → dz_ar A16 W → dl_ar AR W → vs.Nodup → (∀ v ∈ vs, 0 ≤ v ∧ v ∈ ρ) → dv_tr A16 AR W := by
  have fin : ∀ {j : Nat} {W F : rf_N} {h : Int} {vs ρ : List Int} {m : Nat}, 1 ≤ m → W = rf_n j 3 h F .leaf → AR j = vs → 0 ≤ h → vs.length + m ≤ 5 → dz_ar A16 W → dl_ar AR W → vs.Nodup → (∀ v ∈ vs, 0 ≤ v ∧ v ∈ ρ) → dv_tr A16 AR W := by
    intro j W F h vs ρ m hm e ea hh hl ha hA hn hv
    rw [e] at ha hA ⊢
    have a1 : A16 j = (rf_len F : Int) := ha.1.2.2 (by show (3 : Int) ≠ 0; decide)
    have a2 : AR j = dz_hs F := hA.1 rfl
    have a3 : rf_len F = vs.length := by
      rw [← dz_hs_len, ← a2, ea]
    exact ⟨Or.inr (Or.inr ⟨rfl, ⟨a1, by omega⟩, a2, by rw [ea]; exact hn, fun v hv' => (hv v (by rw [← ea]; exact hv')).1⟩), hh, trivial⟩
  intro x
  induction x with
  | leaf =>
    rintro W h vs ρ ⟨j, F, e, ea⟩ hh hl ha hA hn hv
    exact fin (Nat.le_refl _) e ea hh hl ha hA hn hv
  | inner n b u x y ihx ihy =>
    intro W h vs ρ hc hh hl ha hA hn hv
    rcases hc with ⟨rfl, j, F, e, ea⟩ | ⟨⟨rfl, rfl⟩, j, v, W', e, ⟨h2, h6, _⟩, h5⟩
    · exact fin (Nat.le_refl _) e ea hh hl ha hA hn hv
    · have ea : qx_at (.inner 0 false u x y) = qx_at x + qx_at y := rfl
      have px := qx_at_pos x
      rw [e] at ha hA ⊢
      refine ⟨Or.inl ⟨rfl, vl_c3_sg h5, ihy h5 hh (by rw [List.length_append, List.length_singleton]; omega) ha.2.1 (hA.2.1 vx_03) ?_ (fun w hw => ?_)⟩, h6, trivial⟩
      · refine List.nodup_append.mpr ⟨hn, List.nodup_cons.mpr ⟨List.not_mem_nil, List.Pairwise.nil⟩, fun a ha' c hc e' => ?_⟩
        rw [List.mem_singleton.mp hc] at e'
        exact h2 (by rw [← e']; exact (hv a ha').2)
      · rcases List.mem_append.mp hw with hw | hw
        · exact ⟨(hv w hw).1, List.mem_cons_of_mem _ (hv w hw).2⟩
        · rw [List.mem_singleton.mp hw]
          exact ⟨h6, List.mem_cons_self⟩
theorem vl_id_inj {ρ : List Int} (hn : ρ.Nodup) {l l' : Nat} (h : l < ρ.length) (h' : l' < ρ.length) (e : vl_id ρ l = vl_id ρ l') : l = l' := by
  unfold vl_id at e
  rw [List.getElem?_eq_getElem (by omega), List.getElem?_eq_getElem (by omega)] at e
  have e' : ρ[ρ.length - 1 - l] = ρ[ρ.length - 1 - l'] := e
  have hp := List.pairwise_iff_getElem.mp hn
  rcases Nat.lt_trichotomy (ρ.length - 1 - l) (ρ.length - 1 - l') with q | q | q
  · exact absurd e' (hp _ _ (by omega) (by omega) q)
  · omega
  · exact absurd e'.symm (hp _ _ (by omega) (by omega) q)
theorem vl_map_nd {ρ : List Int} (hn : ρ.Nodup) : ∀ {ls : List Nat}, ls.Nodup → (∀ l ∈ ls, l < ρ.length) → (ls.map (vl_id ρ)).Nodup
  | [], _, _ => List.Pairwise.nil
  | l :: ls, h, hl => by
    obtain ⟨h1, h2⟩ := List.nodup_cons.mp h
    refine List.nodup_cons.mpr ⟨fun hm => ?_, vl_map_nd hn h2 (fun x hx => hl x (List.mem_cons_of_mem _ hx))⟩
    obtain ⟨l', m1, m2⟩ := List.mem_map.mp hm
    have := vl_id_inj hn (hl l' (List.mem_cons_of_mem _ m1)) (hl l List.mem_cons_self) m2
    rw [this] at m1
    exact h1 m1
/-- all of a long form stands as the solver wants it -/
theorem vl_tm_tr {SN : Int → Int → Prop} {C M : List (Int × qx_T)} {TV : Int → qx_T → Prop} {A16 : Nat → Int} {AR : Nat → List Int} (hC : ∀ q ∈ C, qx_at q.2 ≤ 5) (hM : ∀ q ∈ M, qx_at q.2 ≤ 5) : ∀ {n : px_N}, (∀ {W : rf_N} {Γ : List (Int × qx_T)} {ρ : List Int} {x y : qx_T}, (∀ q ∈ Γ, qx_at q.2 ≤ 5) → ρ.length = Γ.length → ρ.Nodup → (∀ z ∈ ρ, 0 ≤ z) → (vl_tm SN C M TV AR n).1 W Γ ρ x → (px_wt SN C M n).1 Γ y → dz_ar A16 W → dl_ar AR W → dv_tr A16 AR W) ∧ (∀ {F : rf_N} {Γ : List (Int × qx_T)} {ρ : List Int} {U L L' : qx_T}, (∀ q ∈ Γ, qx_at q.2 ≤ 5) → ρ.length = Γ.length → ρ.Nodup → (∀ z ∈ ρ, 0 ≤ z) → (vl_tm SN C M TV AR n).2 F Γ ρ U L → (px_wt SN C M n).2 Γ U L' → dz_ar A16 F → dl_ar AR F → dv_tr A16 AR F ∧ rf_len F + qx_at L ≤ qx_at U)
  | .leaf => ⟨fun _ _ _ _ h => h.elim, fun {F Γ ρ U L L'} _ _ _ _ ⟨h1, h2⟩ _ _ _ => by
    rw [h1, h2]
    exact ⟨trivial, by show 0 + _ ≤ _; omega⟩⟩
  | .inner g q u0 f n => by
    have hf := vl_tm_tr (SN := SN) (TV := TV) (A16 := A16) (AR := AR) hC hM (n := f)
    have hn := vl_tm_tr (SN := SN) (TV := TV) (A16 := A16) (AR := AR) hC hM (n := n)
    have one : ∀ {W : rf_N} {Γ : List (Int × qx_T)} {ρ : List Int} {x y : qx_T}, (∀ q ∈ Γ, qx_at q.2 ≤ 5) → ρ.length = Γ.length → ρ.Nodup → (∀ z ∈ ρ, 0 ≤ z) → (vl_tm SN C M TV AR (.inner g q u0 f n)).1 W Γ ρ x → (px_wt SN C M (.inner g q u0 f n)).1 Γ y → dz_ar A16 W → dl_ar AR W → dv_tr A16 AR W := by
      intro W Γ ρ x y hΓ hl hρ hz h hw ha hA
      rcases h with ⟨g0, j, v, F, B, h1, ⟨h2, h2a, _, h2c⟩, h3, _⟩ | ⟨g0, k, i, U, h0, h1, ⟨h2, h2n⟩, h3⟩ <;> rcases hw with ⟨w0, _, B', w1, _⟩ | ⟨w0, s, k', u, w1, w2, w3⟩
      · rw [h1] at ha hA ⊢
        have sF : vx_sg F := by
          cases f with
          | leaf => exact h3.elim
          | inner g2 q2 u2 f2 n2 =>
            rcases h3 with ⟨_, j', v', F', B2, e, _⟩ | ⟨_, k2, i2, U2, h02, _, _, ⟨_, F2, _, c⟩ | ⟨_, ls, _, _, _, c⟩⟩
            · exact ⟨_, _, _, _, e⟩
            · exact vl_c1_sg c
            · exact vl_c3_sg c
        refine ⟨Or.inl ⟨rfl, sF, hf.1 (fun p hp => ?_) (by rw [List.length_cons, List.length_cons, hl]) (List.nodup_cons.mpr ⟨h2, hρ⟩) (fun z hz' => ?_) h3 w1 ha.2.1 (hA.2.1 vx_03)⟩, h2a, trivial⟩
        · rcases List.mem_cons.mp hp with rfl | hp
          · exact h2c
          · exact hΓ p hp
        · rcases List.mem_cons.mp hz' with rfl | hz'
          · exact h2a
          · exact hz z hz'
      · exact absurd g0 w0
      · exact absurd w0 g0
      · obtain ⟨e1, e2, e3⟩ := px_hd_fun w1 h1
        subst e1 e2 e3
        have hU := vl_hd5 hC hM hΓ h1
        rcases h3 with ⟨k3, F, r1, r2⟩ | ⟨k3, ls, r1, r1', r3, r2⟩
        · have hk : s = 1 ∨ s = 2 := by
            rcases h1 with ⟨z, _⟩ | ⟨z, _⟩ | ⟨z, _⟩ <;> omega
          have h00 : 0 ≤ h0 := by
            by_cases c : s = 2
            · rw [h2 c]
              have hi : k' < Γ.length := by
                rcases h1 with ⟨_, z⟩ | ⟨z, _⟩ | ⟨z, _⟩
                · exact px_vr_lt z
                · omega
                · omega
              exact hz _ (vl_id_mem (by omega))
            · rw [h2n c]
              omega
          obtain ⟨t1, t2⟩ := hf.2 hΓ hl hρ hz r1 w2 (vl_c1_dar r2 ha) (vl_c1_ar r2 k3 hA)
          exact vl_c1_tr r2 hk h00 (by omega) ha t1
        · obtain ⟨vs, p1, p2⟩ := w3 k3
          have el : vs = ls := px_pv_fun.2 p1 r1
          subst el
          have eU : qx_at u = dz_sm (vs.map (vl_tl Γ)) + qx_at x := by rw [r3, dz_as_at]
          have sl := dz_sm_len (vs.map (vl_tl Γ))
          rw [List.length_map] at sl
          refine vl_c3_tr r2 (by rw [h2n (by omega)]; omega) (by rw [List.length_map]; omega) ha hA (vl_map_nd hρ p2 (fun l hl' => by have := r1' l hl'; omega)) (fun v hv => ?_)
          obtain ⟨l, hl', rfl⟩ := List.mem_map.mp hv
          have := vl_id_mem (ρ := ρ) (l := l) (by have := r1' l hl'; omega)
          exact ⟨hz _ this, this⟩
    refine ⟨one, fun {F Γ ρ U L L'} hΓ hl hρ hz h hw ha hA => ?_⟩
    obtain ⟨W, X, A, U1, ⟨a1, a2⟩, a3, a4, a5⟩ := vl_tm_c.mp h
    obtain ⟨A', U1', b1, b2, b3⟩ := px_wt_c.mp hw
    rw [a3] at b1
    obtain ⟨c1, c2⟩ := qx_a_inj b1
    subst c1 c2
    obtain ⟨j, k, hh, G, rfl⟩ := a1
    have es : vx_sb (rf_n j k hh G .leaf) X = rf_snoc (rf_n j k hh G .leaf) X := rfl
    rw [a2, es] at ha hA ⊢
    obtain ⟨d1, d2⟩ := dl_dar_snoc ha
    obtain ⟨d3, d4⟩ := dl_ar_snoc hA
    obtain ⟨t1, t2⟩ := hn.2 hΓ hl hρ hz a5 b3 d2 d4
    refine ⟨dv_tr_snoc t1 (one hΓ hl hρ hz a4 b2 d1 d3), ?_⟩
    have eU : qx_at U = qx_at A + qx_at U1 := by
      rw [a3]
      rfl
    have pA := qx_at_pos A
    rw [rf_len_snoc]
    show 1 + rf_len X + _ ≤ _
    omega
