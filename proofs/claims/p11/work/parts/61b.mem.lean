/-! ===== the desk's memory: trees, piles, chains, answers ===== -/
/-- a single term -/
def vx_sg (A : rf_N) : Prop := ∃ (j : Nat) (k h : Int) (F : rf_N), A = rf_n j k h F .leaf
theorem vx_sg_1 {A : rf_N} (h : vx_sg A) : A ≠ .leaf ∧ vx_1 A = A := by
  obtain ⟨j, k, hh, F, rfl⟩ := h
  exact ⟨fun q => (by cases q), rfl⟩
/-- made as the desk makes them -/
def dv_tr (A16 : Nat → Int) (AR : Nat → List Int) : rf_N → Prop
  | .leaf => True
  | .inner j q _ F X => ((q.1 = 0 ∧ vx_sg F ∧ dv_tr A16 AR F) ∨ ((q.1 = 1 ∨ q.1 = 2) ∧ (A16 j = (rf_len F : Int) ∧ rf_len F ≤ 4) ∧ dv_tr A16 AR F) ∨ (q.1 = 3 ∧ (A16 j = (rf_len F : Int) ∧ rf_len F ≤ 4) ∧ AR j = dz_hs F ∧ (AR j).Nodup ∧ ∀ v ∈ AR j, 0 ≤ v)) ∧ 0 ≤ q.2 ∧ dv_tr A16 AR X
theorem dv_tr_mono {A16 A16' : Nat → Int} {AR AR' : Nat → List Int} : ∀ {A : rf_N}, (∀ j ∈ rf_idx A, A16' j = A16 j ∧ AR' j = AR j) → dv_tr A16 AR A → dv_tr A16' AR' A
  | .leaf, _, _ => trivial
  | .inner j q u F X, h, ⟨h1, h2, h3⟩ => by
    obtain ⟨e1, e2⟩ := h j List.mem_cons_self
    have hF : ∀ i ∈ rf_idx F, A16' i = A16 i ∧ AR' i = AR i := fun i hi => h i (List.mem_cons_of_mem _ (List.mem_append_left _ hi))
    refine ⟨?_, h2, dv_tr_mono (fun i hi => h i (List.mem_cons_of_mem _ (List.mem_append_right _ hi))) h3⟩
    rcases h1 with ⟨a, b, c⟩ | ⟨a, b, c⟩ | ⟨a, b, c, d⟩
    · exact Or.inl ⟨a, b, dv_tr_mono hF c⟩
    · exact Or.inr (Or.inl ⟨a, by rw [e1]; exact b, dv_tr_mono hF c⟩)
    · exact Or.inr (Or.inr ⟨a, by rw [e1]; exact b, by rw [e2]; exact c, by rw [e2]; exact d⟩)
/-- the term A stands at z -/
def dv_at (s : sx_S) (AR : Nat → List Int) (A : rf_N) (z : Int) : Prop := ∃ (j : Nat) (k h : Int) (F : rf_N), A = rf_n j k h F .leaf ∧ (z = (j : Int) ∧ (j : Int) < s.1 11 6) ∧ (s.2.1 12 j = k ∧ s.2.1 13 j = h) ∧ dz_nd s F (s.2.1 14 j) ∧ dv_tr (s.2.1 16) AR A
theorem dv_at_lt {s : sx_S} {AR : Nat → List Int} {A : rf_N} {z : Int} (h : dv_at s AR A z) : ∀ j ∈ rf_idx A, (j : Int) < s.1 11 6 := fun i hi => by
  obtain ⟨j, k, hh, F, rfl, h1, h2, h3, h4⟩ := h
  rcases List.mem_cons.mp hi with rfl | hi
  · exact h1.2
  · rcases List.mem_append.mp hi with hi | hi
    · exact rf_nd_lt h3 i hi
    · exact absurd hi List.not_mem_nil
theorem dv_at_z {s : sx_S} {AR : Nat → List Int} {A : rf_N} {z : Int} (h : dv_at s AR A z) : 0 ≤ z ∧ z < s.1 11 6 := by
  obtain ⟨j, k, hh, F, rfl, h1, _⟩ := h
  omega
/-- the nodes below n stay, and their ARGs -/
def dv_nf (n : Int) (AR AR' : Nat → List Int) (s t : sx_S) : Prop := True → dz_fr (fun j => (j : Int) < n) s t ∧ ∀ j : Nat, (j : Int) < n → AR' j = AR j
theorem dv_nf_refl (n : Int) (AR : Nat → List Int) (s : sx_S) : dv_nf n AR AR s s := fun _ => ⟨dz_fr_refl _ s, fun _ _ => rfl⟩
theorem dv_at_fr {s t : sx_S} {AR AR' : Nat → List Int} {A : rf_N} {z n : Int} (hn : s.1 11 6 ≤ n) (h : dv_nf n AR AR' s t) (hA : dv_at s AR A z) : dv_at t AR' A z := by
  have hlt := dv_at_lt hA
  obtain ⟨h1, h2⟩ := h trivial
  obtain ⟨g1, g2⟩ := h1 trivial
  obtain ⟨j, k, hh, F, rfl, ⟨a1, a2⟩, ⟨a3, a4⟩, a5, a6⟩ := hA
  have hj : ∀ i ∈ rf_idx (rf_n j k hh F .leaf), (i : Int) < n := fun i hi => by
    have := hlt i hi
    omega
  obtain ⟨b1, b2, b3, b4, b5⟩ := g2 j (hj j List.mem_cons_self)
  refine ⟨j, k, hh, F, rfl, ⟨a1, by omega⟩, ⟨by rw [b1]; exact a3, by rw [b2]; exact a4⟩, ?_, dv_tr_mono (fun i hi => ⟨(g2 i (hj i hi)).2.2.2.2, h2 i (hj i hi)⟩) a6⟩
  rw [b3]
  exact dz_nd_fr a5 h1 (fun i hi => hj i (List.mem_cons_of_mem _ (List.mem_append_left _ hi)))
theorem dv_el_at {s : sx_S} {AR : Nat → List Int} {F : rf_N} {i : Nat} {w : Int} (hi : i < rf_len F) (hF : dv_tr (s.2.1 16) AR F) (h : dz_nd s (dz_dr i F) w) : ∃ A, (vx_el F)[i]? = some A ∧ dv_at s AR A w := by
  induction i generalizing F with
  | zero =>
    cases F with
    | leaf => exact absurd hi (Nat.lt_irrefl _)
    | inner j q u ff x =>
      obtain ⟨⟨a1, a2⟩, ⟨a3, a4⟩, a5, a6⟩ := h
      exact ⟨.inner j q () ff .leaf, rfl, j, q.1, q.2, ff, rfl, ⟨a1, a2⟩, ⟨a3, a4⟩, a5, hF.1, hF.2.1, trivial⟩
  | succ i ih =>
    cases F with
    | leaf => exact absurd hi (Nat.not_lt_zero _)
    | inner j q u ff x =>
      have hi' : i < rf_len x := by
        have : i + 1 < rf_len x + 1 := hi
        omega
      obtain ⟨A, e1, e2⟩ := ih hi' hF.2.2 h
      exact ⟨A, e1, e2⟩
theorem vx_el_len : ∀ F : rf_N, (vx_el F).length = rf_len F
  | .leaf => rfl
  | .inner j q u F X => by
    show (vx_el X).length + 1 = rf_len X + 1
    rw [vx_el_len X]
/-- the body of a \ -/
theorem dv_at_lam {s : sx_S} {AR : Nat → List Int} {j : Nat} {x : Int} {F : rf_N} {z : Int} (h : dv_at s AR (rf_n j 0 x F .leaf) z) : (s.2.1 12 z.toNat = 0 ∧ s.2.1 13 z.toNat = x ∧ 0 ≤ x) ∧ dv_at s AR F (s.2.1 14 z.toNat) := by
  obtain ⟨j', k, hh, F', e, ⟨a1, a2⟩, ⟨a3, a4⟩, a5, a6⟩ := h
  obtain ⟨rfl, rfl, rfl, rfl⟩ : j = j' ∧ 0 = k ∧ x = hh ∧ F = F' := by
    injection e with e1 e2 e3 e4
    exact ⟨e1, (Prod.mk.inj e2).1, (Prod.mk.inj e2).2, e4⟩
  have ez : z.toNat = j := by omega
  rw [ez]
  obtain ⟨b1, b2, _⟩ := a6
  refine ⟨⟨a3, a4, b2⟩, ?_⟩
  rcases b1 with ⟨_, ⟨j2, k2, h2, F2, rfl⟩, b⟩ | ⟨b, _⟩ | ⟨b, _⟩
  · obtain ⟨⟨c1, c2⟩, ⟨c3, c4⟩, c5, c6⟩ := a5
    exact ⟨j2, k2, h2, F2, rfl, ⟨c1, c2⟩, ⟨c3, c4⟩, c5, b⟩
  · have b' : (0 : Int) = 1 ∨ (0 : Int) = 2 := b
    omega
  · exact absurd b vx_03
/-- a head: kind, head, row, arity -/
theorem dv_at_hd {s : sx_S} {AR : Nat → List Int} {j : Nat} {k h : Int} {F : rf_N} {z : Int} (ha : dv_at s AR (rf_n j k h F .leaf) z) : z = (j : Int) ∧ (j : Int) < s.1 11 6 ∧ s.2.1 12 z.toNat = k ∧ s.2.1 13 z.toNat = h ∧ 0 ≤ h ∧ dz_nd s F (s.2.1 14 z.toNat) ∧ (k ≠ 0 → s.2.1 16 z.toNat = (rf_len F : Int) ∧ rf_len F ≤ 4) ∧ (k = 0 ∨ k = 1 ∨ k = 2 ∨ k = 3) ∧ (k = 1 ∨ k = 2 → dv_tr (s.2.1 16) AR F) ∧ (k = 3 → AR j = dz_hs F ∧ (AR j).Nodup ∧ ∀ v ∈ AR j, 0 ≤ v) := by
  obtain ⟨j', k', hh, F', e, ⟨a1, a2⟩, ⟨a3, a4⟩, a5, a6⟩ := ha
  obtain ⟨rfl, rfl, rfl, rfl⟩ : j = j' ∧ k = k' ∧ h = hh ∧ F = F' := by
    injection e with e1 e2 e3 e4
    exact ⟨e1, (Prod.mk.inj e2).1, (Prod.mk.inj e2).2, e4⟩
  have ez : z.toNat = j := by omega
  rw [ez]
  obtain ⟨b1, b2, _⟩ := a6
  refine ⟨a1, a2, a3, a4, b2, a5, ?_⟩
  rcases b1 with ⟨b, _, _⟩ | ⟨b, c, d⟩ | ⟨b, c, d, e⟩
  · have b' : k = 0 := b
    exact ⟨fun q => absurd b' q, Or.inl b', fun q => by omega, fun q => by omega⟩
  · have b' : k = 1 ∨ k = 2 := b
    exact ⟨fun _ => c, by omega, fun _ => d, fun q => by omega⟩
  · have b' : k = 3 := b
    exact ⟨fun _ => c, by omega, fun q => by omega, fun _ => ⟨d, e⟩⟩
/-! the pile of pairs: entries (A, c), (B, d), L, mark; the top first -/
abbrev dv_E : Type := (rf_N × List (Int × Int)) × (rf_N × List (Int × Int)) × Int × Int
def dv_ps (s : sx_S) (AR : Nat → List Int) : Int → List dv_E → Prop
  | _, [] => True
  | hi, p :: r => (p.2.2.2 ≤ hi ∧ 0 ≤ p.2.2.2) ∧ (dv_at s AR p.1.1 (s.2.1 40 r.length) ∧ dv_c s p.1.2 p.2.2.2 (s.2.1 41 r.length)) ∧ (dv_at s AR p.2.1.1 (s.2.1 42 r.length) ∧ dv_c s p.2.1.2 p.2.2.2 (s.2.1 43 r.length)) ∧ (s.2.1 44 r.length = p.2.2.1 ∧ s.2.1 45 r.length = p.2.2.2) ∧ dv_ps s AR p.2.2.2 r
theorem dv_ps_fr {s t : sx_S} {AR AR' : Nat → List Int} {n : Int} (hn : s.1 11 6 ≤ n) (h : dv_nf n AR AR' s t) : ∀ {r : List dv_E} {hi : Int}, (∀ j : Nat, (j : Int) < hi → t.2.1 30 j = s.2.1 30 j ∧ t.2.1 31 j = s.2.1 31 j ∧ t.2.1 32 j = s.2.1 32 j) → (∀ j : Nat, j < r.length → t.2.1 40 j = s.2.1 40 j ∧ t.2.1 41 j = s.2.1 41 j ∧ t.2.1 42 j = s.2.1 42 j ∧ t.2.1 43 j = s.2.1 43 j ∧ t.2.1 44 j = s.2.1 44 j ∧ t.2.1 45 j = s.2.1 45 j) → dv_ps s AR hi r → dv_ps t AR' hi r
  | [], _, _, _, _ => trivial
  | p :: r, hi, hc, hp, ⟨⟨q1, q2⟩, ⟨q3, q4⟩, ⟨q5, q6⟩, ⟨q7, q8⟩, q9⟩ => by
    obtain ⟨e1, e2, e3, e4, e5, e6⟩ := hp r.length (by rw [List.length_cons]; omega)
    have hc' : ∀ j : Nat, (j : Int) < p.2.2.2 → t.2.1 30 j = s.2.1 30 j ∧ t.2.1 31 j = s.2.1 31 j ∧ t.2.1 32 j = s.2.1 32 j := fun j hj => hc j (by omega)
    refine ⟨⟨q1, q2⟩, ⟨?_, ?_⟩, ⟨?_, ?_⟩, ⟨by rw [e5]; exact q7, by rw [e6]; exact q8⟩, dv_ps_fr hn h hc' (fun j hj => hp j (by rw [List.length_cons]; omega)) q9⟩
    · rw [e1]
      exact dv_at_fr hn h q3
    · rw [e2]
      exact dv_ch_fr hc' q4
    · rw [e3]
      exact dv_at_fr hn h q5
    · rw [e4]
      exact dv_ch_fr hc' q6
theorem dv_ps_hi {s : sx_S} {AR : Nat → List Int} {hi hi' : Int} (h : hi ≤ hi') : ∀ {r : List dv_E}, dv_ps s AR hi r → dv_ps s AR hi' r
  | [], _ => trivial
  | _ :: _, ⟨⟨q1, q2⟩, q3⟩ => ⟨⟨by omega, q2⟩, q3⟩
/-! the walk's pile: entries (A, c), L, mark -/
abbrev dv_K : Type := (rf_N × List (Int × Int)) × Int × Int
def dv_ws (s : sx_S) (AR : Nat → List Int) : Int → List dv_K → Prop
  | _, [] => True
  | hi, p :: r => (p.2.2 ≤ hi ∧ 0 ≤ p.2.2) ∧ (dv_at s AR p.1.1 (s.2.1 47 r.length) ∧ dv_c s p.1.2 p.2.2 (s.2.1 48 r.length)) ∧ (s.2.1 51 r.length = p.2.1 ∧ s.2.1 52 r.length = p.2.2) ∧ dv_ws s AR p.2.2 r
theorem dv_ws_fr {s t : sx_S} {AR AR' : Nat → List Int} {n : Int} (hn : s.1 11 6 ≤ n) (h : dv_nf n AR AR' s t) : ∀ {r : List dv_K} {hi : Int}, (∀ j : Nat, (j : Int) < hi → t.2.1 30 j = s.2.1 30 j ∧ t.2.1 31 j = s.2.1 31 j ∧ t.2.1 32 j = s.2.1 32 j) → (∀ j : Nat, j < r.length → t.2.1 47 j = s.2.1 47 j ∧ t.2.1 48 j = s.2.1 48 j ∧ t.2.1 51 j = s.2.1 51 j ∧ t.2.1 52 j = s.2.1 52 j) → dv_ws s AR hi r → dv_ws t AR' hi r
  | [], _, _, _, _ => trivial
  | p :: r, hi, hc, hp, ⟨⟨q1, q2⟩, ⟨q3, q4⟩, ⟨q7, q8⟩, q9⟩ => by
    obtain ⟨e1, e2, e5, e6⟩ := hp r.length (by rw [List.length_cons]; omega)
    have hc' : ∀ j : Nat, (j : Int) < p.2.2 → t.2.1 30 j = s.2.1 30 j ∧ t.2.1 31 j = s.2.1 31 j ∧ t.2.1 32 j = s.2.1 32 j := fun j hj => hc j (by omega)
    refine ⟨⟨q1, q2⟩, ⟨?_, ?_⟩, ⟨by rw [e5]; exact q7, by rw [e6]; exact q8⟩, dv_ws_fr hn h hc' (fun j hj => hp j (by rw [List.length_cons]; omega)) q9⟩
    · rw [e1]
      exact dv_at_fr hn h q3
    · rw [e2]
      exact dv_ch_fr hc' q4
theorem dv_ws_hi {s : sx_S} {AR : Nat → List Int} {hi hi' : Int} (h : hi ≤ hi') : ∀ {r : List dv_K}, dv_ws s AR hi r → dv_ws s AR hi' r
  | [], _ => trivial
  | _ :: _, ⟨⟨q1, q2⟩, q3⟩ => ⟨⟨by omega, q2⟩, q3⟩
/-! the answers -/
def dv_M (s : sx_S) (S : vx_S) (PR : Int → List (Int × Int)) : Prop := True → (s.1 33 6 = S.1 ∧ s.1 11 6 = S.2.1 ∧ S.1 ≤ 32 ∧ ∀ u : Nat, S.1 ≤ (u : Int) → u < 32 → s.2.1 34 u = -1) ∧ ∀ u, 0 ≤ u → u < S.1 → S.2.2.1 u ≤ 4 ∧ ((S.2.2.2.1 u = none ∧ s.2.1 34 u.toNat = -1) ∨ ∃ B, S.2.2.2.1 u = some (B, dv_lk (PR u).reverse) ∧ dv_at s S.2.2.2.2 B (s.2.1 34 u.toNat) ∧ dv_pr s u (PR u) ∧ (∀ q ∈ PR u, 0 ≤ q.2 ∧ q.2 < S.2.2.1 u) ∧ ((PR u).map Prod.fst).Nodup ∧ ((PR u).map Prod.snd).Nodup)
/-- what the desk's memory of answers is not touched by -/
theorem dv_M_fr {s t : sx_S} {S : vx_S} {PR : Int → List (Int × Int)} {n : Int} (hn : s.1 11 6 ≤ n) (h6 : t.1 11 6 = s.1 11 6) (h : dv_nf n S.2.2.2.2 S.2.2.2.2 s t) (h33 : t.1 33 6 = s.1 33 6) (h34 : t.2.1 34 = s.2.1 34) (h35 : t.2.1 35 = s.2.1 35) (h36 : t.2.1 36 = s.2.1 36) (h37 : t.2.1 37 = s.2.1 37) (hM : dv_M s S PR) : dv_M t S PR := fun _ => by
  obtain ⟨⟨a1, a2, a3, a5⟩, a4⟩ := hM trivial
  refine ⟨⟨by rw [h33]; exact a1, by rw [h6]; exact a2, a3, by rw [h34]; exact a5⟩, fun u u0 u1 => ?_⟩
  obtain ⟨b0, b⟩ := a4 u u0 u1
  refine ⟨b0, ?_⟩
  rcases b with ⟨b1, b2⟩ | ⟨B, b1, b2, b3, b4⟩
  · exact Or.inl ⟨b1, by rw [h34]; exact b2⟩
  · refine Or.inr ⟨B, b1, by rw [h34]; exact dv_at_fr hn h b2, fun _ => ?_, b4⟩
    rw [h35, h36, h37]
    exact b3 trivial
