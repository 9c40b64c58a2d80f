/-! ===== the reference: an equation's side, as a node under no names ===== -/
theorem rf_rp_at {s : sx_S} : ∀ {x : rf_T} {i e : Int}, rf_rp s .leaf x i e → ∀ (q : Nat) (T : rf_T), (rf_args x)[q]? = some T → rf_vt s (s.2.1 105 (i + (q : Int)).toNat) T
  | .leaf, _, _, _, q, T, hT => by
    have h0 : (rf_args .leaf)[q]? = none := rfl
    rw [h0] at hT
    cases hT
  | .inner n u v A B, i, e, h, q, T, hT => by
    rcases h with ⟨h1, _⟩ | ⟨h1, h2⟩
    · cases h1
    · cases q with
      | zero =>
        have h3 : some A = some T := hT
        cases h3
        have e0 : i + ((0 : Nat) : Int) = i := by omega
        rw [e0]
        exact h1
      | succ q =>
        have h3 : (rf_args B)[q]? = some T := hT
        have h4 := rf_rp_at h2 q T h3
        have e1 : i + ((q + 1 : Nat) : Int) = i + 1 + (q : Int) := by omega
        rw [e1]
        exact h4
theorem rf_rl_mem {s : sx_S} {i : Int} {q : Nat} : ∀ {n : Nat}, q < n → s.2.1 105 (i + (q : Int)).toNat ∈ rf_rl s i n
  | 0, h => absurd h (Nat.not_lt_zero _)
  | n + 1, h => by
    rw [rf_rl_s]
    by_cases e : q = n
    · rw [e]
      exact List.mem_append_right _ (List.mem_cons_self ..)
    · exact List.mem_append_left _ (rf_rl_mem (by omega))
theorem rf_rl_inj {s : sx_S} {i : Int} : ∀ {n : Nat}, (rf_rl s i n).Nodup → ∀ p q : Nat, p < n → q < n → s.2.1 105 (i + (p : Int)).toNat = s.2.1 105 (i + (q : Int)).toNat → p = q
  | 0, _, p, _, h, _, _ => absurd h (Nat.not_lt_zero _)
  | n + 1, h, p, q, hp, hq, he => by
    rw [rf_rl_s] at h
    obtain ⟨h1, _, h3⟩ := List.nodup_append.mp h
    by_cases ep : p = n
    · by_cases eq : q = n
      · rw [ep, eq]
      · subst ep
        exact absurd he.symm (h3 _ (rf_rl_mem (q := q) (by omega)) _ (List.mem_cons_self ..))
    · by_cases eq : q = n
      · subst eq
        exact absurd he (h3 _ (rf_rl_mem (q := p) (by omega)) _ (List.mem_cons_self ..))
      · exact rf_rl_inj h1 p q (by omega) (by omega) he
theorem rf_sc_am {G : Nat → Int → List Int → Prop} {p p' : Nat → Int → Prop} (hp : ∀ j r Γ, G j r Γ → p j r → p' j r) : ∀ {n : rf_N}, (∀ Γ, (rf_sc G n).1 Γ → (rf_am p n).1 → (rf_am p' n).1) ∧ (∀ Γ, (rf_sc G n).2 Γ → (rf_am p n).2 → (rf_am p' n).2)
  | .leaf => ⟨fun _ _ _ => trivial, fun _ _ _ => trivial⟩
  | .inner j k u f x => by
    have hf := rf_sc_am hp (n := f)
    have hx := rf_sc_am hp (n := x)
    have h1 : ∀ Γ, (rf_sc G (.inner j k u f x)).1 Γ → (rf_am p (.inner j k u f x)).1 → (rf_am p' (.inner j k u f x)).1 := by
      rintro Γ (⟨q1, q2⟩ | ⟨q1, q2, q3, q4⟩) ⟨a, b, c⟩
      · exact ⟨fun e => absurd e (by omega), fun e => hf.1 _ q2 (b e), fun e => absurd e (by omega)⟩
      · exact ⟨fun e => hp _ _ _ (q3 e) (a e), fun e => absurd e q1, fun e => hf.2 _ q4 (c e)⟩
    exact ⟨h1, fun Γ ⟨q1, q2⟩ ⟨a, b⟩ => ⟨h1 Γ q1 a, hx.2 Γ q2 b⟩⟩
/-- the unknowns of the problem, as they were made -/
def rf_UK (u : sx_S) : Prop := u.1 66 45 ≤ u.1 66 61 ∧ ∀ r : Int, 0 ≤ r → r < u.1 66 45 → ∃ x : rf_T, rf_is u x (u.2.1 123 r.toNat) ∧ rf_at x ≤ 5 ∧ rf_aa u r = ((rf_args x).length : Int) ∧ ∀ (q : Nat) (T : rf_T), (rf_args x)[q]? = some T → rf_py u r q T
theorem rf_EQ_RT {nb ib : Int} {u : sx_S} {g : rf_Gh} (hM : rf_MI nb ib u g) (hU : rf_UK u) (h70 : 0 ≤ u.1 66 70) {z : Int} {x : rf_T} (h : rf_EQ u z x) : ∃ A : rf_N, rf_CL u g (fun _ _ => False) A .leaf x [] (1150 + (rf_wh A).1) z (-1) ∧ ∀ v, ¬ (rf_fo (rf_Wd u g.2.2) A).1 v := by
  obtain ⟨N, n1, n2, n3, n4⟩ := h
  obtain ⟨h45, hU⟩ := hU
  have hty : (rf_gt (rf_Hn (u.1 66 58) u (fun _ _ => False)) rf_P N).1 x := by
    refine (rf_gt_mono (fun j hj => ⟨fun k r w hw => ?_, fun t ht => ht⟩)).1 x n2
    rcases hw with ⟨e, hv⟩ | ⟨e, hv⟩ | ⟨e, hv⟩ | ⟨e, hw, e', x', ⟨⟨r0, r1⟩, a5, f0, f1⟩, is', rp'⟩
    · exact Or.inl ⟨e, hv⟩
    · exact Or.inr (Or.inl ⟨e, hv⟩)
    · exact Or.inr (Or.inr (Or.inl ⟨e, hv⟩))
    · obtain ⟨x2, i2, a2, l2, p2⟩ := hU r r0 r1
      have ex : x2 = x' := rf_ty_inj i2 is'
      subst ex
      have hl := rf_rp_len rp'
      refine Or.inr (Or.inr (Or.inr ⟨e, hw, ⟨r0, by omega⟩, ⟨f0, by omega⟩, fun q hq => ?_⟩))
      have hq' : q < (rf_args x2).length := by omega
      have hT : (rf_args x2)[q]? = some ((rf_args x2)[q]) := List.getElem?_eq_getElem hq'
      exact ⟨_, p2 q _ hT, Or.inl (rf_rp_at rp' q _ hT)⟩
  have hr : (rf_am (fun _ r => 0 ≤ r ∧ r < u.1 66 45) N).1 := by
    refine (rf_am_gt (fun j r w hw => ?_)).1 x n2
    rcases hw with ⟨e, _⟩ | ⟨e, _⟩ | ⟨e, _⟩ | ⟨e, _, e', x', ⟨⟨r0, r1⟩, _⟩, _⟩
    · exact absurd e (by decide)
    · exact absurd e (by decide)
    · exact absurd e (by decide)
    · exact ⟨r0, r1⟩
  have hlen : ∀ (r : Int) (x' : rf_T), 0 ≤ r ∧ r < u.1 66 45 → rf_is u x' (u.2.1 123 r.toNat) → ∀ q, g.2.2 r q → q < (rf_args x').length := fun r x' hr' is' q hq => by
    obtain ⟨x2, i2, _, l2, _⟩ := hU r hr'.1 hr'.2
    have ex : x2 = x' := rf_ty_inj i2 is'
    subst ex
    have := (hM.1 r hr'.1 (by omega)).2.1 q hq
    omega
  have hdi : (rf_am (rf_di u g.2.2) N).1 := by
    refine (rf_sc_am (G := rf_G u) (fun j r Γ hG hr' => ?_)).1 [] n3 hr
    obtain ⟨x', is', f0, nd, _⟩ := hG
    intro p q hp hq he
    exact rf_rl_inj nd p q (hlen r x' hr' is' p hp) (hlen r x' hr' is' q hq) he
  have hfo : ∀ v, ¬ (rf_fo (rf_Wd u g.2.2) N).1 v := by
    intro v hv
    have ham : (rf_am (fun j r => ∀ Γ, rf_G u j r Γ → ∀ v, rf_Wd u g.2.2 j r v → v ∈ Γ) N).1 := by
      refine (rf_am_mono (fun j _ r hr' => ?_)).1 hr
      intro Γ hG w hw
      obtain ⟨x', is', f0, _, hin⟩ := hG
      obtain ⟨q, hq, ew⟩ := hw
      rw [ew]
      exact hin _ (rf_rl_mem (hlen r x' hr' is' q hq))
    exact absurd ((rf_sc_fo (G := rf_G u) (W := rf_Wd u g.2.2) (n := N)).1 ham [] n3 v hv) List.not_mem_nil
  exact ⟨N, ⟨⟨n1, hty, ⟨fun _ _ h => h.elim, Or.inr (fun _ _ h => h)⟩, rf_NM_nil h70⟩, ⟨hdi, fun a b ha _ _ => absurd ha (hfo a)⟩, n4, ⟨List.nodup_nil, fun x hx => absurd hx List.not_mem_nil, Nat.le_refl _⟩⟩, hfo⟩
/-- it stays so while unknowns are solved -/
theorem rf_UK_up {nb ib : Int} {s t : sx_S} (h : rf_EX nb ib s t) (h45 : t.1 66 45 = s.1 66 45) (h123 : t.2.1 123 = s.2.1 123) (k : rf_UK s) : rf_UK t := by
  obtain ⟨⟨⟨h9, h72, h73, _, _⟩, _, _, h61, h64, _⟩, hR⟩ := h
  obtain ⟨k1, k2⟩ := k
  have his : ∀ x T, rf_is s x T → rf_is t x T := fun x T hx => by
    unfold rf_is at hx ⊢
    rw [h72, h73, h9]
    exact hx
  refine ⟨by omega, fun r r0 r1 => ?_⟩
  obtain ⟨x, i1, a1, l1, p1⟩ := k2 r r0 (by omega)
  obtain ⟨e108, e109, _⟩ := (hR r.toNat).2.2.2.1 (by omega)
  refine ⟨x, ?_, a1, ?_, fun q T hT => ?_⟩
  · rw [h123]
    exact his _ _ i1
  · show t.2.1 108 r.toNat = _
    rw [e108]
    exact l1
  · obtain ⟨⟨b1, b2⟩, b3, b4⟩ := p1 q T hT
    have e110 := (hR (s.2.1 109 r.toNat + (q : Int)).toNat).2.2.2.2.1 (by omega)
    refine ⟨?_, ?_, b4⟩
    · rw [e109]
      omega
    · rw [e109, e110]
      exact his _ _ b3
