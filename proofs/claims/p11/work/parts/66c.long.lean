/-! ===== what a long form is: all of it ===== -/
theorem vl_tl_cons {q : Int × qx_T} {Γ : List (Int × qx_T)} {l : Nat} (h : l < Γ.length) : vl_tl (q :: Γ) l = vl_tl Γ l := by
  unfold vl_tl
  rw [List.length_cons, show Γ.length + 1 - 1 - l = (Γ.length - 1 - l) + 1 by omega, List.getElem?_cons_succ]
theorem vl_tl_top {q : Int × qx_T} {Γ : List (Int × qx_T)} : vl_tl (q :: Γ) Γ.length = q.2 := by
  unfold vl_tl
  rw [List.length_cons, show Γ.length + 1 - 1 - Γ.length = 0 by omega]
  rfl
theorem vl_vr_tl {SN : Int → Int → Prop} {a : Int} : ∀ {Γ : List (Int × qx_T)} {k : Nat} {x : qx_T}, px_vr SN Γ a k x → vl_tl Γ k = x
  | [], _, _, h => h.elim
  | q :: Γ, k, x, h => by
    rcases h with ⟨_, h2, h3⟩ | ⟨_, h2⟩
    · rw [h2, vl_tl_top, h3]
    · rw [vl_tl_cons (px_vr_lt h2)]
      exact vl_vr_tl h2
theorem vl_cf_at {SN : Int → Int → Prop} {a : Int} : ∀ {Γ : List (Int × qx_T)} {k : Nat} {x : qx_T}, px_cf SN Γ a k x → ∃ q, Γ[k]? = some q ∧ q.2 = x
  | [], _, _, h => h.elim
  | q :: Γ, k, x, h => by
    rcases h with ⟨_, h2, h3⟩ | ⟨_, j, h2, h3⟩
    · rw [h2]
      exact ⟨q, rfl, h3.symm⟩
    · obtain ⟨p, p1, p2⟩ := vl_cf_at h3
      rw [h2]
      exact ⟨p, by rw [List.getElem?_cons_succ]; exact p1, p2⟩
/-- what is known of all names -/
def vl_E (tv tc : Int → rf_T) (tm : Int → Int → rf_T) (ar : Int → Int) (C M : List (Int × qx_T)) (TV : Int → qx_T → Prop) : Prop := (∀ v T, TV v T → tv v = qx_sh T) ∧ (∀ (i : Nat) q, C[i]? = some q → tc i = qx_sh q.2) ∧ (∀ (i : Nat) q, M[i]? = some q → ar i = ((rf_args (qx_sh q.2)).length : Int) ∧ ∀ a : Int, tm i a = vl_ta q.2 a)
def vl_S (tv : Int → rf_T) (Γ : List (Int × qx_T)) (ρ : List Int) : Prop := ρ.length = Γ.length ∧ ∀ l, l < Γ.length → tv (vl_id ρ l) = qx_sh (vl_tl Γ l)
theorem vl_S_cons {tv : Int → rf_T} {Γ : List (Int × qx_T)} {ρ : List Int} {v : Int} {q : Int × qx_T} (h : vl_S tv Γ ρ) (hv : tv v = qx_sh q.2) : vl_S tv (q :: Γ) (v :: ρ) := by
  obtain ⟨h1, h2⟩ := h
  refine ⟨by rw [List.length_cons, List.length_cons, h1], fun l hl => ?_⟩
  rw [List.length_cons] at hl
  by_cases c : l < Γ.length
  · rw [vl_id_cons (by omega), vl_tl_cons c]
    exact h2 l c
  · have e : l = Γ.length := by omega
    rw [e, vl_tl_top, ← h1, vl_id_top]
    exact hv
/-- what a tree is -/
def vl_ok (tv tc : Int → rf_T) (tm : Int → Int → rf_T) (ar : Int → Int) (AR : Nat → List Int) (P : Int → Int → Prop) (N : Nat) (W : rf_N) (ρ : List Int) : Prop := (∀ z, vx_fv P AR z W → z ∈ ρ) ∧ (∀ m, vx_mt m W → 0 ≤ m ∧ m < (N : Int)) ∧ vx_ok ar AR W
theorem vl_tm_all {SN : Int → Int → Prop} {C M : List (Int × qx_T)} {TV : Int → qx_T → Prop} {AR : Nat → List Int} {tv tc : Int → rf_T} {tm : Int → Int → rf_T} {ar : Int → Int} {P : Int → Int → Prop} (hE : vl_E tv tc tm ar C M TV) : ∀ {n : px_N}, (∀ {W : rf_N} {Γ : List (Int × qx_T)} {ρ : List Int} {x : qx_T}, vl_S tv Γ ρ → (vl_tm SN C M TV AR n).1 W Γ ρ x → vx_sg W ∧ (vx_ty tv tc tm AR W).1 (qx_sh x) ∧ vl_ok tv tc tm ar AR P M.length W ρ) ∧ (∀ {F : rf_N} {Γ : List (Int × qx_T)} {ρ : List Int} {U L : qx_T}, vl_S tv Γ ρ → (vl_tm SN C M TV AR n).2 F Γ ρ U L → vl_rw tv tc tm AR F (qx_sh U) (qx_sh L) ∧ vl_ok tv tc tm ar AR P M.length F ρ)
  | .leaf => ⟨fun _ h => h.elim, fun {F Γ ρ U L} _ ⟨h1, h2⟩ => by
    rw [h1, h2]
    exact ⟨rfl, fun _ q => q.elim, fun _ q => q.elim, trivial⟩⟩
  | .inner g q u0 f n => by
    have hf := vl_tm_all (SN := SN) (AR := AR) (P := P) hE (n := f)
    have hn := vl_tm_all (SN := SN) (AR := AR) (P := P) hE (n := n)
    obtain ⟨hT, hC, hM⟩ := hE
    have one : ∀ {W : rf_N} {Γ : List (Int × qx_T)} {ρ : List Int} {x : qx_T}, vl_S tv Γ ρ → (vl_tm SN C M TV AR (.inner g q u0 f n)).1 W Γ ρ x → vx_sg W ∧ (vx_ty tv tc tm AR W).1 (qx_sh x) ∧ vl_ok tv tc tm ar AR P M.length W ρ := by
      intro W Γ ρ x hS h
      rcases h with ⟨g0, j, v, F, B, h1, ⟨h2, h2a, h2b, _⟩, h3, h4⟩ | ⟨g0, k, i, U, h0, h1, ⟨h2, h2n⟩, h3⟩
      · have ev := hT v q.2 h2b
        obtain ⟨a1, a2, a3, a4, a5⟩ := hf.1 (vl_S_cons hS ev) h3
        rw [h1, h4]
        refine ⟨⟨_, _, _, _, rfl⟩, Or.inl ⟨rfl, qx_sh B, ?_, a2⟩, fun z hz => ?_, fun m hm => ?_, ⟨Or.inl ⟨Or.inl rfl, a5⟩, trivial⟩⟩
        · show rf_a (qx_sh q.2) (qx_sh B) = rf_a (tv v) (qx_sh B)
          rw [ev]
        · rcases hz with (⟨_, q1, q2⟩ | ⟨c, _⟩ | ⟨c, _⟩) | c
          · rcases List.mem_cons.mp (a3 z q2) with c | c
            · exact absurd c q1
            · exact c
          · exact absurd c vx_03
          · exact absurd rfl c
          · exact c.elim
        · rcases hm with ⟨c, _⟩ | ⟨_, c⟩ | c
          · exact absurd c vx_03
          · exact a4 m c
          · exact c.elim
      · rcases h3 with ⟨k3, F, r1, r2⟩ | ⟨k3, ls, r1, r1', r3, r2⟩
        · obtain ⟨b1, b2, b3, b4⟩ := hf.2 hS r1
          have hk : (k = 1 ∧ tc h0 = qx_sh U) ∨ (k = 2 ∧ tv h0 = qx_sh U) := by
            rcases h1 with ⟨c, z⟩ | ⟨c, _, z⟩ | ⟨c, _⟩
            · refine Or.inr ⟨c, ?_⟩
              rw [h2 c, hS.2 i (px_vr_lt z), vl_vr_tl z]
            · obtain ⟨p, p1, p2⟩ := vl_cf_at z
              refine Or.inl ⟨c, ?_⟩
              rw [h2n (by omega), hC i p p1, p2]
            · exact absurd c k3
          have k12 : k = 1 ∨ k = 2 := hk.imp And.left And.left
          have hr : k = 2 → h0 ∈ ρ := fun c => by
            rw [h2 c]
            rcases h1 with ⟨_, z⟩ | ⟨z, _⟩ | ⟨z, _⟩
            · exact vl_id_mem (by have := px_vr_lt z; have := hS.1; omega)
            · omega
            · omega
          refine ⟨?_, vl_c1_ty hT r2 hk b1, vl_c1_fv r2 (by omega) k3 hr b2, fun m hm => b3 m (vl_c1_mt r2 k3 hm), vl_c1_ok r2 k12 b4⟩
          cases x with
          | leaf =>
            obtain ⟨j, e⟩ := r2
            exact ⟨_, _, _, _, e⟩
          | inner _ b _ x y =>
            rcases r2 with ⟨_, j, e⟩ | ⟨_, j, v, g, W', e, _⟩
            · exact ⟨_, _, _, _, e⟩
            · exact ⟨_, _, _, _, e⟩
        · have hz : px_cf SN M q.1 i U := by
            rcases h1 with ⟨c, _⟩ | ⟨c, _⟩ | ⟨_, _, _, z⟩
            · omega
            · omega
            · exact z
          obtain ⟨p, p1, p2⟩ := vl_cf_at hz
          have hi : i < M.length := (List.getElem?_eq_some_iff.mp p1).1
          have c2 : k ≠ 2 := by omega
          obtain ⟨m1, m2⟩ := hM i p p1
          rw [p2] at m1 m2
          rw [h2n c2] at r2
          obtain ⟨t1, t2⟩ := vl_c3_ty (tc := tc) hT r2 m2 r3 (by rw [List.length_map, List.length_map]) (fun a y T ha hb => by
            rw [List.getElem?_map] at ha hb
            cases e : ls[a]? with
            | none =>
              rw [e] at ha
              cases ha
            | some l =>
              rw [e] at ha hb
              have e1 : vl_id ρ l = y := Option.some.inj ha
              have e2 : vl_tl Γ l = T := Option.some.inj hb
              rw [← e1, ← e2]
              exact hS.2 l (r1' l (List.mem_of_getElem? e)))
          refine ⟨?_, t1, vl_c3_fv r2 (fun v hv => ?_), fun m hm => ?_, ?_⟩
          · cases x with
            | leaf =>
              obtain ⟨j, F, e, _⟩ := r2
              exact ⟨_, _, _, _, e⟩
            | inner _ b _ x y =>
              rcases r2 with ⟨_, j, F, e, _⟩ | ⟨_, j, v, W', e, _⟩
              · exact ⟨_, _, _, _, e⟩
              · exact ⟨_, _, _, _, e⟩
          · obtain ⟨l, hl, rfl⟩ := List.mem_map.mp hv
            exact vl_id_mem (by have := r1' l hl; have := hS.1; omega)
          · rw [vl_c3_mt r2 hm]
            omega
          · refine vx_ok_cg (fun m hm => ?_) (fun _ _ => rfl) t2
            rw [vl_c3_mt r2 hm]
            exact m1
    refine ⟨one, fun {F Γ ρ U L} hS h => ?_⟩
    obtain ⟨W, X, A, U1, ⟨a1, a2⟩, a3, a4, a5⟩ := vl_tm_c.mp h
    obtain ⟨b1, b2, b3, b4, b5⟩ := one hS a4
    obtain ⟨c1, c2, c3, c4⟩ := hn.2 hS a5
    obtain ⟨j, k, hh, G, rfl⟩ := a1
    rw [a2, a3]
    refine ⟨⟨qx_sh A, qx_sh U1, rfl, b2, c1⟩, fun z hz => ?_, fun m hm => ?_, ⟨b5.1, c4⟩⟩
    · rcases hz with hz | hz
      · exact b3 z (Or.inl hz)
      · exact c2 z hz
    · rcases hm with hm | hm | hm
      · exact b4 m (Or.inl hm)
      · exact b4 m (Or.inr (Or.inl hm))
      · exact c3 m hm
