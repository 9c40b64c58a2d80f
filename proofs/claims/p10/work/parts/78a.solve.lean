/-! ===== the reference: solve, and what the text's equations ask ===== -/
theorem vs_rl {s : sx_S} {i : Int} : ∀ n : Nat, rf_rl s i n = (List.range n).map (fun q : Nat => s.2.1 105 (i + (q : Int)).toNat)
  | 0 => rfl
  | n + 1 => by
    rw [rf_rl_s, vs_rl n, List.range_succ, List.map_append]
    rfl
theorem vs_g {s : sx_S} {n : Int} {p : Nat → Int → Prop} (hn : s.1 66 50 ≤ n) (hp : ∀ (j : Nat) (r e : Int), (j : Int) < s.1 66 50 → rf_mp s j r .leaf e → s.2.1 101 j = r → p j r) : ∀ {N : rf_N} {z : Int}, rf_no s N z → (∀ t, (rf_gt (rf_H s) rf_P N).1 t → (vr_g n p N).1) ∧ (∀ w t, (rf_gt (rf_H s) rf_P N).2 w t → (vr_g n p N).2)
  | .leaf, _, _ => ⟨fun _ h => h.elim, fun _ _ _ => trivial⟩
  | .inner j k u f x, z, ⟨⟨h1, h2⟩, ⟨h3, h4⟩, h5, h6⟩ => by
    have hf := vs_g hn hp h5
    have hx := vs_g hn hp h6
    have one : ∀ t, (rf_gt (rf_H s) rf_P (.inner j k u f x)).1 t → (vr_g n p (.inner j k u f x)).1 := by
      rintro t (⟨k0, A, B, _, _, hB⟩ | ⟨k0, w, hw, hr, _⟩)
      · exact ⟨by omega, Or.inl ⟨k0, hf.1 B hB⟩⟩
      · refine ⟨by omega, ?_⟩
        rcases hw with ⟨e, _⟩ | ⟨e, _⟩ | ⟨e, _⟩ | ⟨e, _, e', hm⟩
        · exact absurd e k0
        · exact Or.inr (Or.inr ⟨Or.inl e, hf.2 _ _ hr⟩)
        · exact Or.inr (Or.inr ⟨Or.inr e, hf.2 _ _ hr⟩)
        · exact Or.inr (Or.inl ⟨e, hp j _ e' h2 hm h4⟩)
    refine ⟨one, fun w t h => ?_⟩
    obtain ⟨A, B, _, g1, g2⟩ := h
    exact ⟨one A g1, hx.2 B t g2⟩
theorem vs_mt {n : Int} {p : Nat → Int → Prop} {m : Int} : ∀ {A : rf_N}, ((vr_g n p A).1 → vx_mt m (vr_1 A) → ∃ j, p j m) ∧ ((vr_g n p A).2 → vx_mt m (vr_c A) → ∃ j, p j m)
  | .leaf => ⟨fun h => h.elim, fun _ h => h.elim⟩
  | .inner j k u f x => by
    have hf := vs_mt (n := n) (p := p) (m := m) (A := f)
    have hx := vs_mt (n := n) (p := p) (m := m) (A := x)
    have key : (vr_g n p (.inner j k u f x)).1 → ((k.1 = 3 ∧ k.2 = m) ∨ (k.1 ≠ 3 ∧ vx_mt m (vr_f k.1 f))) → ∃ j, p j m := by
      rintro ⟨hj, h⟩ hm
      rcases hm with ⟨c, hm⟩ | ⟨c, hm⟩
      · rcases h with ⟨k0, _⟩ | ⟨_, h⟩ | ⟨k2, _⟩
        · omega
        · exact ⟨j, by rw [← hm]; exact h⟩
        · omega
      · rcases h with ⟨k0, h⟩ | ⟨k3, _⟩ | ⟨k2, h⟩
        · rw [vr_f_0 k0] at hm
          exact hf.1 h hm
        · exact absurd k3 c
        · rw [vr_f_2 k2] at hm
          exact hf.2 h hm
    constructor
    · intro h hm
      rw [vr_1_in] at hm
      rcases hm with hm | hm | hm
      · exact key h (Or.inl hm)
      · exact key h (Or.inr hm)
      · exact hm.elim
    · intro h hm
      rw [vr_c_in] at hm
      rcases hm with hm | hm | hm
      · exact key h.1 (Or.inl hm)
      · exact key h.1 (Or.inr hm)
      · exact hx.2 h.2 hm
/-- closed sides: at which depth they are compared makes no difference -/
theorem vs_lev {th : Int → rf_N} {AR AR' : Nat → List Int} (hg : vx_gd th) {A B W V : rf_N} (hA : ∀ (e e' : Int → Int) (L : Int), vx_val th AR A e L = vx_val th AR' W e' L) (hB : ∀ (e e' : Int → Int) (L : Int), vx_val th AR B e L = vx_val th AR' V e' L) (e e' : Int → Int) (L L' : Int) : vx_val th AR A e L = vx_val th AR B e L ↔ vx_val th AR' W e' L' = vx_val th AR' V e' L' := by
  have key : ∀ (L L' : Int), vx_val th AR A e L = vx_val th AR B e L → vx_val th AR A e L' = vx_val th AR B e L' := fun L L' q => by
    have q2 : vx_re (fun x => x - L + L') (vx_val th AR A e L) = vx_re (fun x => x - L + L') (vx_val th AR B e L) := by rw [q]
    rw [vx_val_re hg (L' := L') (fun i _ => by show L + i - L + L' = L' + i; omega), vx_val_re hg (L' := L') (fun i _ => by show L + i - L + L' = L' + i; omega)] at q2
    rw [hA e e' L', hB e e' L', ← hA (fun v => e v - L + L') e' L', ← hB (fun v => e v - L + L') e' L']
    exact q2
  constructor
  · intro q
    rw [← hA e e' L', ← hB e e' L']
    exact key L L' q
  · intro q
    rw [← hA e e' L', ← hB e e' L'] at q
    exact key L' L q
/-- how many ARGs an unknown takes; values for the unknowns; they solve the first k equations -/
def vs_ra (M : List (Int × qx_T)) (m : Int) : Int := ((M[m.toNat]?).map (fun q => ((rf_args (qx_sh q.2)).length : Int))).getD 0
def vs_B (M : List (Int × qx_T)) (th : Int → rf_N) : Prop := vx_gd th ∧ ∀ u, 0 ≤ u → u < (M.length : Int) → vx_sc (th u) (vs_ra M u)
def vs_E (AR : Nat → List Int) (tl : List (rf_N × rf_N)) (k : Int) (th : Int → rf_N) : Prop := ∀ q, tl[k.toNat]? = some q → vx_val th AR q.1 (dv_lk []) 0 = vx_val th AR q.2 (dv_lk []) 0
def vs_Q (AR : Nat → List Int) (tl : List (rf_N × rf_N)) (k : Int) (th : Int → rf_N) : Prop := ∀ i : Int, 0 ≤ i → i < k → vs_E AR tl i th
def vs_sat (AR : Nat → List Int) (tl : List (rf_N × rf_N)) (M : List (Int × qx_T)) : Prop := ∃ th, vs_B M th ∧ vs_Q AR tl (tl.length : Int) th
/-- the desk's trees of the equations -/
def vs_tl (SN : Int → Int → Prop) (TV : Int → qx_T → Prop) (AR : Nat → List Int) (E : List ((List (Int × qx_T) × List (Int × qx_T)) × (px_N × px_N))) (tl : List (rf_N × rf_N)) : Prop := tl.length = E.length ∧ ∀ (k : Nat) p, E[k]? = some p → ∃ W V x y, tl[k]? = some (W, V) ∧ (vl_tm SN p.1.1 p.1.2 TV AR p.2.1).1 W [] [] x ∧ (vl_tm SN p.1.1 p.1.2 TV AR p.2.2).1 V [] [] y
theorem vs_ar {s u : sx_S} {M : List (Int × qx_T)} {mt : Int} (hD : px_DL 97 123 45 mt s M) (h9 : 2 ≤ s.1 66 9) (xu : rf_xu s u) (hU : rf_UK u) {m : Int} (h0 : 0 ≤ m) (h1 : m < (M.length : Int)) : rf_aa u m = vs_ra M m ∧ m < u.1 66 61 := by
  obtain ⟨d1, d2⟩ := hD trivial
  have e45 := (xu.2 0).1.2.2.2.2
  obtain ⟨e, b1, _, _, b4⟩ := d2 m.toNat (by omega)
  obtain ⟨u1, u2⟩ := hU
  obtain ⟨x, i1, _, i3, _⟩ := u2 m h0 (by omega)
  rw [(xu.2 m.toNat).2.2.2.2.2] at i1
  have ex : x = qx_sh e.2 := rf_ty_inj i1 (rf_is_up (qx_ty_sh h9 b4) xu.1)
  refine ⟨?_, by omega⟩
  unfold vs_ra
  rw [b1, i3, ex]
  rfl
/-- the rows of the nodes that load made, as solving sees them -/
theorem vs_p {s u : sx_S} {AR : Nat → List Int} (hZ : rf_Z s u) (hU : rf_UK u) (hR : ∀ i m ws, vk_RX s i m ws → AR i = ws) : ∀ (j : Nat) (r e : Int), (j : Int) < s.1 66 50 → rf_mp s j r .leaf e → s.2.1 101 j = r → vr_p u AR j r := fun j r e hj hm h101 => by
  have xu := rf_Z_xu hZ
  obtain ⟨x, ⟨⟨r0, r1⟩, a5, f0, f1⟩, is', rp'⟩ := hm
  have hl := rf_rp_len rp'
  have e45 := (xu.2 0).1.2.2.2.2
  have e0 := (xu.2 0).1
  obtain ⟨u1, u2⟩ := hU
  obtain ⟨x2, i1, _, i3, _⟩ := u2 r r0 (by omega)
  rw [(xu.2 r.toNat).2.2.2.2.2] at i1
  have ex : x2 = x := rf_ty_inj i1 (rf_is_up is' xu.1)
  subst ex
  have e104 := (xu.2 j).2.2.2.1 hj
  refine ⟨⟨by omega, ⟨r0, by omega⟩, ⟨by omega, by omega⟩⟩, ?_⟩
  rw [hR j r (rf_rl s (s.2.1 104 j) (rf_args x2).length) ⟨⟨⟨hj, ⟨f0, by rw [rf_rl_len]; omega⟩, by rw [rf_rl_len]⟩, x2, is', by rw [rf_rl_len]⟩, h101, r0, r1⟩, vs_rl]
  unfold vr_rw
  rw [i3, Int.toNat_natCast]
  apply List.map_congr_left
  intro q hq
  have hq' := List.mem_range.mp hq
  unfold rf_rv1
  rw [e104]
  exact ((xu.2 (s.2.1 104 j + (q : Int)).toNat).2.2.1 (by omega)).symm
/-- what is known of all solutions -/
def vs_J (s : sx_S) (AR' : Nat → List Int) (tl : List (rf_N × rf_N)) (M : List (Int × qx_T)) (u : sx_S) (g : rf_Gh) (AR : Nat → List Int) (k : Int) : Prop := True → vr_G u g AR ∧ (∀ i m ws, vk_RX s i m ws → AR i = ws) ∧ (∀ th, vx_So (vr_S u g AR) th → vs_B M th ∧ vs_Q AR' tl k th) ∧ ∀ th, vs_B M th → vs_Q AR' tl k th → ∃ th', vx_So (vr_S u g AR) th' ∧ vx_ag (M.length : Int) th th'
def vs_I3 (AR' : Nat → List Int) (tl : List (rf_N × rf_N)) (M : List (Int × qx_T)) (s u : sx_S) (k : Int) : Prop := ∃ (g : rf_Gh) (AR : Nat → List Int), ((cx_I u ∧ rf_MI (u.1 66 71) (u.1 66 58) u g ∧ rf_ph u g ≤ 1150 ∧ rf_RM 0 u) ∧ rf_UK u ∧ rf_Z s u ∧ (u.1 66 71 + 2700 * (rf_qu u : Int) ≤ 2700 * (25 + k) ∧ u.1 66 58 + 2700 * (rf_qu u : Int) ≤ 11000 + 2700 * (25 + k)) ∧ u.1 66 78 = 0) ∧ vs_J s AR' tl M u g AR k
theorem vs_I1_I3 {s u : sx_S} {AR' : Nat → List Int} {tl : List (rf_N × rf_N)} {M : List (Int × qx_T)} {mt : Int} (hD : px_DL 97 123 45 mt s M) (h9 : 2 ≤ s.1 66 9) (hs : (0 ≤ s.1 66 50 ∧ s.1 66 50 ≤ 22000) ∧ (0 ≤ s.1 66 56 ∧ s.1 66 56 ≤ 11000) ∧ (0 ≤ s.1 66 58 ∧ s.1 66 58 ≤ 11000)) (h71 : s.1 66 71 = 0) (h70 : s.1 66 70 = 0) (h78 : s.1 66 78 = 0) (h45 : 0 ≤ s.1 66 45 ∧ s.1 66 45 ≤ 5) (h : rf_I1 s u (s.1 66 45)) : vs_I3 AR' tl M s u 0 := by
  have hb := rf_I1_bd h45 h
  have hM := rf_I1_MI (nb := u.1 66 71) (ib := u.1 66 58) h
  have hU := rf_I1_UK h
  have hZ := rf_Z_I1 h
  have xu := rf_Z_xu hZ
  have lM := (hD trivial).1
  obtain ⟨⟨a1, a2, a3⟩, a4, a5, a6⟩ := h
  have e50 := a3 50 rfl
  have e56 := a3 56 rfl
  have e58 := a3 58 rfl
  have e70 := a3 70 rfl
  have e71 := a3 71 rfl
  have no : ∀ x : Int, 0 ≤ x → x < u.1 66 61 → u.2.1 111 x.toNat = 0 := fun x x0 x1 => (a6 x x0 (by omega)).1
  refine ⟨rf_g0 u, fun j => vr_rw u j (u.2.1 101 j), ⟨⟨a1, hM, hb.1, by omega, by omega, by omega, by omega, by omega, by omega⟩, hU, hZ, by omega, (a3 78 rfl).trans h78⟩, fun _ => ⟨fun x x0 x1 hx => absurd (no x x0 x1) hx, fun i m ws q => ?_, fun th hT => ⟨⟨hT.1, fun m m0 m1 => ?_⟩, fun i i0 i1 => by omega⟩, fun th hB _ => ⟨th, ⟨hB.1, fun m m0 m1 => ?_, fun x B e he => ?_⟩, fun _ _ _ => rfl⟩⟩⟩
  · obtain ⟨⟨⟨g1, ⟨g2, g3⟩, g4⟩, x, g5, g6⟩, g7, g8, g9⟩ := q
    obtain ⟨_, x', i1, _, i3, _⟩ := a6 m g8 (by omega)
    have ex : x' = x := rf_ty_inj i1 g5
    subst ex
    have e101 : u.2.1 101 i = m := by rw [(a2.same 101 rfl).2]; exact g7
    show vr_rw u i (u.2.1 101 i) = ws
    rw [e101, ← g4, vs_rl]
    unfold vr_rw rf_aa
    rw [i3, Int.toNat_natCast, g6]
    apply List.map_congr_left
    intro q _
    unfold rf_rv1
    rw [(a2.same 104 rfl).2, (a2.same 105 rfl).2]
  · obtain ⟨v1, v2⟩ := vs_ar hD h9 xu hU m0 m1
    have := hT.2.1 m m0 v2
    rw [← v1, ← vr_ar_at ⟨m0, v2⟩]
    exact this
  · have m1' : m < u.1 66 61 := m1
    obtain ⟨v1, v2⟩ := vs_ar hD h9 xu hU m0 (by omega)
    show vx_sc (th m) (vr_ar u m)
    rw [vr_ar_at ⟨m0, v2⟩, v1]
    exact hB.2 m m0 (by omega)
  · obtain ⟨b1, b2, _⟩ := vr_bo_some he
    exact absurd (no x b1.1 b1.2) b2
/-- one equation more -/
theorem vs_I3_s {s u t : sx_S} {AR' : Nat → List Int} {tl : List (rf_N × rf_N)} {M : List (Int × qx_T)} {g : rf_Gh} {AR : Nat → List Int} {k z : Int} {p : Nat} {P : (Int → rf_N) → Prop} (hI : cx_I u) (k0 : 0 ≤ k) (hM61 : (M.length : Int) ≤ u.1 66 61) (hp : p ≤ 2700) (h1 : rf_UK u) (h2 : rf_Z s u) (h3 : u.1 66 71 + 2700 * (rf_qu u : Int) ≤ 2700 * (25 + k) ∧ u.1 66 58 + 2700 * (rf_qu u : Int) ≤ 11000 + 2700 * (25 + k)) (h8 : u.1 66 78 = 0) (hJ : vs_J s AR' tl M u g AR k) (hP : ∀ th, vx_So (vr_S u g AR) th → (P th ↔ vs_E AR' tl k th)) (hX : ∀ th th', vx_gd th → vx_gd th' → vx_ag (M.length : Int) th th' → vs_E AR' tl k th → vs_E AR' tl k th') (h : vr_PU u t g AR z p P) (hz : z ≠ 0) : vs_I3 AR' tl M s t (k + 1) := by
  obtain ⟨_, c1, c2, _, c3⟩ := h
  obtain ⟨g', AR2, d1, d2, _, ⟨d3, d4, d5⟩, d6, d7, _, _, e1, e2, e3⟩ := c3 hz
  obtain ⟨j1, j2, j3, j4⟩ := hJ trivial
  obtain ⟨y1, y2, y3⟩ := e3 trivial
  have hm := rf_mul_bd d5 hp
  have hz' := rf_Z_FS c2
  have h50 := h2.2.2.1
  refine ⟨g', AR2, ⟨⟨c1, d1, d3, d4⟩, rf_UK_up d2 (hz'.1.2 45 rfl) (hz'.1.1.same 123 rfl).2 h1, rf_Z_trans hz' h2, ⟨?_, ?_⟩, (c2.1.2 78 rfl).trans h8⟩, fun _ => ⟨e1, fun i m ws q => ?_, fun th hT => ?_, fun th hB hQ => ?_⟩⟩
  · omega
  · omega
  · rw [e2 i (by have := q.1.1.1; omega)]
    exact j2 i m ws q
  · have hS := vx_So_le (vr_W hI j1) y1 hT
    obtain ⟨b1, b2⟩ := j3 th hS
    refine ⟨b1, fun i i0 i1 => ?_⟩
    by_cases c : i < k
    · exact b2 i i0 c
    · have ei : i = k := by omega
      rw [ei]
      exact (hP th hS).mp (y2 th hT)
  · obtain ⟨th', s1, s2⟩ := j4 th hB (fun i i0 i1 => hQ i i0 (by omega))
    have hE := hX th th' hB.1 s1.1 s2 (hQ k k0 (by omega))
    obtain ⟨th2, w1, w2⟩ := y3 th' s1 ((hP th' s1).mpr hE)
    refine ⟨th2, w1, fun m m0 m1 => ?_⟩
    have e4 : (vr_S u g AR).1 = u.1 66 61 := rfl
    rw [w2 m m0 (by omega), s2 m m0 m1]
theorem vs_no {s u : sx_S} {AR' : Nat → List Int} {tl : List (rf_N × rf_N)} {M : List (Int × qx_T)} {g : rf_Gh} {AR : Nat → List Int} {k : Int} {P : (Int → rf_N) → Prop} (k0 : 0 ≤ k) (kl : k < (tl.length : Int)) (hJ : vs_J s AR' tl M u g AR k) (hP : ∀ th, vx_So (vr_S u g AR) th → (P th ↔ vs_E AR' tl k th)) (hX : ∀ th th', vx_gd th → vx_gd th' → vx_ag (M.length : Int) th th' → vs_E AR' tl k th → vs_E AR' tl k th') (hN : vr_N (vr_S u g AR) P) : ¬ vs_sat AR' tl M := by
  rintro ⟨th, hB, hQ⟩
  obtain ⟨j1, j2, j3, j4⟩ := hJ trivial
  obtain ⟨th', s1, s2⟩ := j4 th hB (fun i i0 i1 => hQ i i0 (by omega))
  exact hN th' s1 ((hP th' s1).mpr (hX th th' hB.1 s1.1 s2 (hQ k k0 kl)))
theorem vs_yes {s u : sx_S} {AR' : Nat → List Int} {tl : List (rf_N × rf_N)} {M : List (Int × qx_T)} {g : rf_Gh} {AR : Nat → List Int} {nb ib : Int} (hI : cx_I u) (hM : rf_MI nb ib u g) (hJ : vs_J s AR' tl M u g AR (tl.length : Int)) : vs_sat AR' tl M := by
  obtain ⟨j1, j2, j3, j4⟩ := hJ trivial
  obtain ⟨th, h⟩ := vr_fin hI hM j1
  exact ⟨th, j3 th h⟩
/-- the two sides of an equation, as solving meets them -/
theorem vs_eq {s u : sx_S} {SN : Int → Int → Prop} {C M0 : List (Int × qx_T)} {n1 n2 : px_N} {z1 z2 : Int} {x1 x2 : rf_T} {TV : Int → qx_T → Prop} {AR AR' : Nat → List Int} {tl : List (rf_N × rf_N)} {M : List (Int × qx_T)} {k : Int} {W V : rf_N} {y1 y2 : qx_T} (hZ : rf_Z s u) (hU : rf_UK u) (hR : ∀ i m ws, vk_RX s i m ws → AR i = ws) (h45 : s.1 66 45 = (M.length : Int)) (d1 : vk_sd SN C M0 n1 s z1) (d2 : vk_sd SN C M0 n2 s z2) (q1 : rf_EQ s z1 x1) (q2 : rf_EQ s z2 x2) (ht : tl[k.toNat]? = some (W, V)) (t1 : (vl_tm SN C M0 TV AR' n1).1 W [] [] y1) (t2 : (vl_tm SN C M0 TV AR' n2).1 V [] [] y2) : ∃ A B : rf_N, (rf_no u A z1 ∧ rf_no u B z2) ∧ (vr_t u AR A ∧ vr_t u AR B) ∧ (∀ (L : Int) th, vx_gd th → (vr_E AR A .leaf B .leaf L th ↔ vs_E AR' tl k th)) ∧ ∀ th th', vx_gd th → vx_gd th' → vx_ag (M.length : Int) th th' → vs_E AR' tl k th → vs_E AR' tl k th' := by
  obtain ⟨A, ⟨a1, a2⟩, a3⟩ := d1
  obtain ⟨B, ⟨b1, b2⟩, b3⟩ := d2
  obtain ⟨A', e1, e2, _⟩ := q1
  obtain ⟨B', f1, f2, _⟩ := q2
  obtain rfl := rf_nd_fun a1 e1
  obtain rfl := rf_nd_fun b1 f1
  have xu := rf_Z_xu hZ
  have h50 := hZ.2.2.1
  have ag : rf_ag 100 103 (s.1 66 50) s u := fun p j h1 h2 h3 => hZ.2.1.1 p j h1 (by omega) h3
  have eqv : ∀ (L : Int) th, vx_gd th → (vr_E AR A .leaf B .leaf L th ↔ vs_E AR' tl k th) := fun L th hg => by
    have on : ∀ m, vx_on (th m) := fun m => (hg m).1
    have l := vs_lev (A := A) (B := B) (W := W) (V := V) (AR := AR) (AR' := AR') hg (fun e e' L => a3 th AR on hR TV AR' W y1 e e' L t1) (fun e e' L => b3 th AR on hR TV AR' V y2 e e' L t2) (rf_look .leaf) (dv_lk []) L 0
    unfold vr_E vr_V
    rw [a2, b2, l]
    constructor
    · intro h q hq
      have eq : (W, V) = q := Option.some.inj (ht.symm.trans hq)
      rw [← eq]
      exact h
    · intro h
      exact h (W, V) ht
  have mb : ∀ {N : rf_N} {z : Int} {x : rf_T}, rf_no s N z → (rf_gt (rf_H s) rf_P N).1 x → vr_1 N = N → ∀ m, vx_mt m N → 0 ≤ m ∧ m < s.1 66 45 := fun {N z x} n1 n2 n3 m hm => by
    have g := (vs_g (n := s.1 66 50) (p := fun _ r => 0 ≤ r ∧ r < s.1 66 45) (Int.le_refl _) (fun j r e _ hm' _ => by
      obtain ⟨x, ⟨h, _⟩, _⟩ := hm'
      exact h) n1).1 x n2
    obtain ⟨_, h⟩ := vs_mt.1 g (by rw [n3]; exact hm)
    exact h
  refine ⟨A, B, ⟨rf_no_up ag h50 a1, rf_no_up ag h50 b1⟩, ⟨(vs_g h50 (vs_p hZ hU hR) a1).1 _ e2, (vs_g h50 (vs_p hZ hU hR) b1).1 _ f2⟩, eqv, fun th th' g1 g2 hag hE => ?_⟩
  have o1 : ∀ m, vx_on (th m) := fun m => (g1 m).1
  have o2 : ∀ m, vx_on (th' m) := fun m => (g2 m).1
  intro q hq
  have eq : (W, V) = q := Option.some.inj (ht.symm.trans hq)
  have h := hE (W, V) ht
  rw [← eq]
  show vx_val th' AR' W (dv_lk []) 0 = vx_val th' AR' V (dv_lk []) 0
  have w1 : vx_val th' AR' W (dv_lk []) 0 = vx_val th AR' W (dv_lk []) 0 := by
    rw [← a3 th' AR o2 hR TV AR' W y1 (dv_lk []) (dv_lk []) 0 t1, ← a3 th AR o1 hR TV AR' W y1 (dv_lk []) (dv_lk []) 0 t1]
    exact vx_val_th (fun m hm => hag m (mb a1 e2 a2 m hm).1 (by have := (mb a1 e2 a2 m hm).2; omega)) (fun _ _ => rfl)
  have w2 : vx_val th' AR' V (dv_lk []) 0 = vx_val th AR' V (dv_lk []) 0 := by
    rw [← b3 th' AR o2 hR TV AR' V y2 (dv_lk []) (dv_lk []) 0 t2, ← b3 th AR o1 hR TV AR' V y2 (dv_lk []) (dv_lk []) 0 t2]
    exact vx_val_th (fun m hm => hag m (mb b1 f2 b2 m hm).1 (by have := (mb b1 f2 b2 m hm).2; omega)) (fun _ _ => rfl)
  rw [w1, w2]
  exact h
/-! what load left stays -/
theorem vk_LD_u {b : Nat → Int} {n : Int} {l : List ((Int × Int × qx_T) × (px_N × px_N))} {s t : sx_S} (hU : vk_U s t) (h45 : t.1 66 45 = s.1 66 45) (h47 : t.1 66 47 = s.1 66 47) (h97 : t.2.1 97 = s.2.1 97) (h123 : t.2.1 123 = s.2.1 123) (h98 : t.2.1 98 = s.2.1 98) (h99 : t.2.1 99 = s.2.1 99) (h : vk_LD b n l s) : vk_LD b n l t := fun _ => by
  obtain ⟨a1, ⟨m, a2⟩, a3, a4⟩ := h trivial
  refine ⟨a1, ⟨m, px_DL_up a2 h45 (hU trivial).1.2.2.2 h97 h123⟩, by rw [h47]; exact a3, fun k p hp => ?_⟩
  obtain ⟨b1, b2⟩ := a4 k p hp
  rw [h98, h99]
  exact ⟨vk_sd_up hU b1, vk_sd_up hU b2⟩
theorem vk_Z_LD {b : Nat → Int} {n : Int} {l : List ((Int × Int × qx_T) × (px_N × px_N))} {s t : sx_S} (g : vk_LD b n l (rf_l0 s)) (h : rf_Z (rf_z8 s) t) : vk_LD b n l (rf_l0 t) := by
  obtain ⟨⟨z1, z2, z3⟩, _, z4⟩ := rf_z8_f (s := s)
  obtain ⟨l1, l2, l3, l4, _⟩ := rf_l0_f (s := s)
  obtain ⟨m1, m2, m3, m4, _⟩ := rf_l0_f (s := t)
  obtain ⟨⟨a1, a2⟩, ⟨a3, a4, a5⟩, a6, a7, a8⟩ := h
  have Z : ∀ k, k ≠ 50 → k ≠ 56 → k ≠ 58 → k ≠ 71 → k ≠ 61 → k ≠ 64 → k ≠ 70 → k ≠ 78 → k ≠ 79 → k ≠ 83 → k ≠ 86 → k ≠ 89 → t.1 66 k = s.1 66 k := fun k h1 h2 h3 h4 h5 h6 h7 h8 h9 h10 h11 h12 => (a2 k (by simp [h1, h2, h3, h4, h5, h6, h7, h8, h9, h10, h11, h12])).trans (z4 k h1 h2 h3 h4 h5 h6 h7 h8)
  have t9 := Z 9 (by decide) (by decide) (by decide) (by decide) (by decide) (by decide) (by decide) (by decide) (by decide) (by decide) (by decide) (by decide)
  have t45 := Z 45 (by decide) (by decide) (by decide) (by decide) (by decide) (by decide) (by decide) (by decide) (by decide) (by decide) (by decide) (by decide)
  have t47 := Z 47 (by decide) (by decide) (by decide) (by decide) (by decide) (by decide) (by decide) (by decide) (by decide) (by decide) (by decide) (by decide)
  have t75 := Z 75 (by decide) (by decide) (by decide) (by decide) (by decide) (by decide) (by decide) (by decide) (by decide) (by decide) (by decide) (by decide)
  have t76 := Z 76 (by decide) (by decide) (by decide) (by decide) (by decide) (by decide) (by decide) (by decide) (by decide) (by decide) (by decide) (by decide)
  have y9 : (rf_l0 t).1 66 9 = (rf_l0 s).1 66 9 := ((m4 9 (by decide) (by decide) (by decide)).trans t9).trans (l4 9 (by decide) (by decide) (by decide)).symm
  have y45 : (rf_l0 t).1 66 45 = (rf_l0 s).1 66 45 := ((m4 45 (by decide) (by decide) (by decide)).trans t45).trans (l4 45 (by decide) (by decide) (by decide)).symm
  have y47 : (rf_l0 t).1 66 47 = (rf_l0 s).1 66 47 := ((m4 47 (by decide) (by decide) (by decide)).trans t47).trans (l4 47 (by decide) (by decide) (by decide)).symm
  have u72 : (rf_l0 t).2.1 72 = (rf_l0 s).2.1 72 := (a1.same 72 rfl).2
  have u73 : (rf_l0 t).2.1 73 = (rf_l0 s).2.1 73 := (a1.same 73 rfl).2
  have u97 : (rf_l0 t).2.1 97 = (rf_l0 s).2.1 97 := (a1.same 97 rfl).2
  have u123 : (rf_l0 t).2.1 123 = (rf_l0 s).2.1 123 := (a1.same 123 rfl).2
  have u98 : (rf_l0 t).2.1 98 = (rf_l0 s).2.1 98 := (a1.same 98 rfl).2
  have u99 : (rf_l0 t).2.1 99 = (rf_l0 s).2.1 99 := (a1.same 99 rfl).2
  exact vk_LD_u (s := rf_l0 s) (t := rf_l0 t) (fun _ => ⟨⟨by omega, by omega, by omega, fun j => ⟨by omega, fun _ => ⟨by rw [u72], by rw [u73]⟩⟩⟩, fun p j h1 h2 h3 => a3 p j h1 (by omega) (by omega), fun j => ⟨fun hj => a3 104 j (by omega) (by omega) (by omega), fun hj => a4 105 j (by omega) (by omega) (by omega), fun _ => by rw [u123]⟩⟩) y45 y47 u97 u123 u98 u99 g
