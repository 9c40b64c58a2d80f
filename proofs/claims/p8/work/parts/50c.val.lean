/-! ===== which ARGs are used; a state without ways back has a solution ===== -/
theorem vx_fv_mono {U V : Int → Int → Prop} {AR : Nat → List Int} {z : Int} (h : ∀ m i, U m i → V m i) : ∀ {A : rf_N}, vx_fv U AR z A → vx_fv V AR z A
  | .leaf, q => q
  | .inner j q u F X, k => by
    rcases k with (⟨k1, k2, k3⟩ | ⟨k1, i, k2, k3⟩ | ⟨k1, k2, k3 | k3⟩) | k
    · exact Or.inl (Or.inl ⟨k1, k2, vx_fv_mono h k3⟩)
    · exact Or.inl (Or.inr (Or.inl ⟨k1, i, k2, h _ _ k3⟩))
    · exact Or.inl (Or.inr (Or.inr ⟨k1, k2, Or.inl k3⟩))
    · exact Or.inl (Or.inr (Or.inr ⟨k1, k2, Or.inr (vx_fv_mono h k3)⟩))
    · exact Or.inr (vx_fv_mono h k)
/-- only what is used of the unknowns and ARGs that stand in it -/
theorem vx_fv_mono' {U V : Int → Int → Prop} {ar : Int → Int} {AR : Nat → List Int} {z : Int} : ∀ {A : rf_N}, vx_ok ar AR A → (∀ m (i : Nat), vx_mt m A → (i : Int) < ar m → U m i → V m i) → vx_fv U AR z A → vx_fv V AR z A
  | .leaf, _, _, q => q
  | .inner j q u F X, o, h, k => by
    rcases k with (⟨k1, k2, k3⟩ | ⟨k1, i, k2, k3⟩ | ⟨k1, k2, k3 | k3⟩) | k
    · refine Or.inl (Or.inl ⟨k1, k2, vx_fv_mono' (ar := ar) ?_ (fun m i hm => h m i (Or.inr (Or.inl ⟨by omega, hm⟩))) k3⟩)
      rcases o.1 with ⟨_, o⟩ | ⟨o, _⟩
      · exact o
      · omega
    · refine Or.inl (Or.inr (Or.inl ⟨k1, i, k2, h _ _ (Or.inl ⟨k1, rfl⟩) ?_ k3⟩))
      rcases o.1 with ⟨o, _⟩ | ⟨_, o⟩
      · omega
      · obtain ⟨hi, _⟩ := List.getElem?_eq_some_iff.mp k2
        omega
    · exact Or.inl (Or.inr (Or.inr ⟨k1, k2, Or.inl k3⟩))
    · refine Or.inl (Or.inr (Or.inr ⟨k1, k2, Or.inr (vx_fv_mono' (ar := ar) ?_ (fun m i hm => h m i (Or.inr (Or.inl ⟨k2, hm⟩))) k3)⟩))
      rcases o.1 with ⟨_, o⟩ | ⟨o, _⟩
      · exact o
      · omega
    · exact Or.inr (vx_fv_mono' (ar := ar) o.2 (fun m i hm => h m i (Or.inr (Or.inr hm))) k)
/-- the least: all ARGs of an open unknown; of another, what its body has -/
def vx_cl (S : vx_S) (P : Int → Int → Prop) : Prop := (∀ v i, S.2.2.2.1 v = none → 0 ≤ i → i < S.2.2.1 v → P v i) ∧ (∀ v B e z, S.2.2.2.1 v = some (B, e) → vx_fv P S.2.2.2.2 z B → P v (e z))
def vx_U (S : vx_S) (u j : Int) : Prop := ∀ P : Int → Int → Prop, vx_cl S P → P u j
theorem vx_U_cl (S : vx_S) : vx_cl S (vx_U S) := ⟨fun v i h0 h1 h2 P hP => hP.1 v i h0 h1 h2, fun v B e z hb hz P hP => hP.2 v B e z hb (vx_fv_mono (fun m i hu => hu P hP) hz)⟩
theorem vx_U_inv {S : vx_S} {u j : Int} (h : vx_U S u j) : (S.2.2.2.1 u = none ∧ 0 ≤ j ∧ j < S.2.2.1 u) ∨ ∃ B e z, S.2.2.2.1 u = some (B, e) ∧ vx_fv (vx_U S) S.2.2.2.2 z B ∧ e z = j := by
  have key : vx_cl S (fun u j => vx_U S u j ∧ ((S.2.2.2.1 u = none ∧ 0 ≤ j ∧ j < S.2.2.1 u) ∨ ∃ B e z, S.2.2.2.1 u = some (B, e) ∧ vx_fv (vx_U S) S.2.2.2.2 z B ∧ e z = j)) := by
    refine ⟨fun v i h0 h1 h2 => ⟨(vx_U_cl S).1 v i h0 h1 h2, Or.inl ⟨h0, h1, h2⟩⟩, fun v B e z hb hz => ?_⟩
    have hz' := vx_fv_mono (V := vx_U S) (fun m i hu => hu.1) hz
    exact ⟨(vx_U_cl S).2 v B e z hb hz', Or.inr ⟨B, e, z, hb, hz', rfl⟩⟩
  exact (h _ key).2
/-- what is used stands for an ARG -/
def vx_Sc (S : vx_S) : Prop := ∀ u B e z, S.2.2.2.1 u = some (B, e) → vx_fv (vx_U S) S.2.2.2.2 z B → 0 ≤ e z
/-- no ways back -/
def vx_rk (S : vx_S) (rk : Int → Nat) : Prop := ∀ u B e m, S.2.2.2.1 u = some (B, e) → vx_mt m B → rk m < rk u
theorem vx_val_on {th : Int → rf_N} {AR : Nat → List Int} {e : Int → Int} {L : Int} (hg : ∀ m, vx_on (th m)) : ∀ {A : rf_N}, A ≠ .leaf → vx_on (vx_val th AR (vx_1 A) e L)
  | .leaf, h => absurd rfl h
  | .inner j q u F X, _ => by
    show vx_on (vx_val th AR (.inner j q () F .leaf) e L)
    rw [vx_val_in]
    by_cases h0 : q.1 = 0
    · rw [if_pos h0]
      exact ⟨_, _, _, rfl⟩
    · rw [if_neg h0]
      by_cases h3 : q.1 = 3
      · rw [if_pos h3]
        have e1 : vx_val th AR .leaf e L = .leaf := rfl
        rw [e1, vx_sb_leaf (vx_re_on (hg _))]
        exact vx_re_on (hg _)
      · rw [if_neg h3]
        exact ⟨_, _, _, rfl⟩
theorem vx_sc_sb {a X : rf_N} {b : Int} (h : vx_on a) (ha : vx_sc a b) (hX : vx_sc X b) : vx_sc (vx_sb a X) b := by
  obtain ⟨k, h, F, rfl⟩ := h
  exact ⟨ha.1, ha.2.1, hX⟩
/-- the value is well made where what is used is -/
theorem vx_val_sc {th : Int → rf_N} {ar : Int → Int} {AR : Nat → List Int} (hg : vx_gd th) : ∀ {A : rf_N} {e : Int → Int} {L : Int}, 0 ≤ L → vx_ok ar AR A → (∀ m, vx_mt m A → vx_sc (th m) (ar m)) → (∀ z, vx_fv (vx_us th) AR z A → 0 ≤ e z ∧ e z < L) → vx_sc (vx_val th AR A e L) L
  | .leaf, _, _, _, _, _, _ => trivial
  | .inner j q u F X, e, L, hL, ho, hm, hz => by
    have hX := vx_val_sc hg (e := e) hL ho.2 (fun m h => hm m (Or.inr (Or.inr h))) (fun z h => hz z (Or.inr h))
    rw [vx_val_in]
    by_cases h0 : q.1 = 0
    · rw [if_pos h0]
      have oF : vx_ok ar AR F := by
        rcases ho.1 with ⟨_, o⟩ | ⟨o, _⟩
        · exact o
        · omega
      refine ⟨rfl, Or.inl ⟨rfl, rfl, vx_val_sc hg (by omega) oF (fun m h => hm m (Or.inr (Or.inl ⟨by omega, h⟩))) (fun z h => ?_)⟩, hX⟩
      unfold vx_up
      by_cases c : z = q.2
      · rw [if_pos c]
        omega
      · rw [if_neg c]
        have := hz z (Or.inl (Or.inl ⟨h0, c, h⟩))
        omega
    · rw [if_neg h0]
      by_cases h3 : q.1 = 3
      · rw [if_pos h3]
        refine vx_sc_sb (vx_re_on (hg _).1) ?_ hX
        have hl : ((AR j).length : Int) = ar q.2 := by
          rcases ho.1 with ⟨o, _⟩ | ⟨_, o⟩
          · omega
          · exact o
        have := vx_sc_re (ρ := vx_ix ((AR j).map e) L) (a := ar q.2) hL (Int.le_refl _) (hm q.2 (Or.inl ⟨h3, rfl⟩)) (fun v hv hl' => by
          have v0 := (hg q.2).2 v hv
          unfold vx_ix
          rw [List.length_map, if_pos (by omega), vx_getD_map e _ _ (by omega)]
          have hi : v.toNat < (AR j).length := by omega
          rw [vx_gD hi]
          refine hz _ (Or.inl (Or.inr (Or.inl ⟨h3, v.toNat, List.getElem?_eq_getElem hi, ?_⟩)))
          show vx_oc ((v.toNat : Nat) : Int) (th q.2)
          rw [Int.toNat_of_nonneg v0]
          exact hv) (fun v hv => by
          unfold vx_ix
          rw [List.length_map, if_neg (by omega), hl])
        rw [show L + (ar q.2 - ar q.2) = L by omega] at this
        exact this
      · rw [if_neg h3]
        have o12 : (q.1 = 1 ∨ q.1 = 2) ∧ vx_ok ar AR F := by
          rcases ho.1 with ⟨o, o'⟩ | ⟨o, _⟩
          · exact ⟨by omega, o'⟩
          · omega
        refine ⟨rfl, Or.inr ⟨?_, vx_val_sc hg hL o12.2 (fun m h => hm m (Or.inr (Or.inl ⟨h3, h⟩))) (fun z h => hz z (Or.inl (Or.inr (Or.inr ⟨h0, h3, Or.inr h⟩))))⟩, hX⟩
        rcases o12.1 with c | c
        · exact Or.inl c
        · refine Or.inr ⟨c, ?_⟩
          show 0 ≤ (if q.1 = 2 then e q.2 else q.2) ∧ (if q.1 = 2 then e q.2 else q.2) < L
          rw [if_pos c]
          exact hz q.2 (Or.inl (Or.inr (Or.inr ⟨h0, h3, Or.inl ⟨c, rfl⟩⟩)))
/-- variables i, i + 1 .. as a row -/
def vx_vs : Nat → Int → rf_N
  | 0, _ => .leaf
  | n + 1, i => rf_n 0 2 i .leaf (vx_vs n (i + 1))
theorem vx_vs_sc {b : Int} : ∀ {n : Nat} {i : Int}, 0 ≤ i → i + (n : Int) ≤ b → vx_sc (vx_vs n i) b
  | 0, _, _, _ => trivial
  | n + 1, i, h0, h1 => ⟨rfl, Or.inr ⟨Or.inr ⟨rfl, h0, by show i < b; omega⟩, trivial⟩, vx_vs_sc (by omega) (by omega)⟩
/-- an open unknown as a head of its own, before all its ARGs -/
def vx_gn (ar : Int → Int) (u : Int) : rf_N := rf_n 0 1 (-1 - u) (vx_vs (ar u).toNat 0) .leaf
def vx_it (S : vx_S) : Nat → Int → rf_N
  | 0, u => vx_gn S.2.2.1 u
  | n + 1, u => (S.2.2.2.1 u).elim (vx_gn S.2.2.1 u) (fun p => vx_val (vx_it S n) S.2.2.2.2 p.1 p.2 (S.2.2.1 u))
theorem vx_it_s (S : vx_S) (n : Nat) (u : Int) : vx_it S (n + 1) u = (S.2.2.2.1 u).elim (vx_gn S.2.2.1 u) (fun p => vx_val (vx_it S n) S.2.2.2.2 p.1 p.2 (S.2.2.1 u)) := rfl
theorem vx_it_st {S : vx_S} {rk : Int → Nat} (hr : vx_rk S rk) : ∀ (k : Nat) (u : Int) (n n' : Nat), rk u < k → rk u < n → rk u < n' → vx_it S n u = vx_it S n' u
  | 0, _, _, _, h, _, _ => absurd h (Nat.not_lt_zero _)
  | k + 1, u, 0, _, _, h, _ => absurd h (Nat.not_lt_zero _)
  | k + 1, u, _ + 1, 0, _, _, h => absurd h (Nat.not_lt_zero _)
  | k + 1, u, n + 1, n' + 1, h, h1, h2 => by
    rw [vx_it_s, vx_it_s]
    cases hb : S.2.2.2.1 u with
    | none => rfl
    | some p =>
      obtain ⟨B, e⟩ := p
      refine vx_val_th (fun m hm => ?_) (fun _ _ => rfl)
      have := hr u B e m hb hm
      exact vx_it_st hr k m n n' (by omega) (by omega) (by omega)
/-- bodies are single terms -/
def vx_B1 (S : vx_S) : Prop := (∀ u B e, S.2.2.2.1 u = some (B, e) → B ≠ .leaf ∧ vx_1 B = B) ∧ ∀ u, 0 ≤ S.2.2.1 u
theorem vx_fin {S : vx_S} {rk : Int → Nat} (hW : vx_W S) (hB : vx_B1 S) (hr : vx_rk S rk) (hSc : vx_Sc S) : ∃ th, vx_So S th ∧ (∀ u, S.2.2.2.1 u = none → th u = vx_gn S.2.2.1 u) ∧ ∀ u (i : Nat), (i : Int) < S.2.2.1 u → vx_oc i (th u) → vx_U S u i := by
  have hS : ∀ u n, rk u < n → vx_it S n u = vx_it S (rk u + 1) u := fun u n h => vx_it_st hr (rk u + 1) u n (rk u + 1) (by omega) h (by omega)
  have hth : ∀ u B e, S.2.2.2.1 u = some (B, e) → vx_it S (rk u + 1) u = vx_val (fun m => vx_it S (rk m + 1) m) S.2.2.2.2 B e (S.2.2.1 u) := fun u B e hb => by
    rw [vx_it_s, hb]
    exact vx_val_th (fun m hm => hS m _ (hr u B e m hb hm)) (fun _ _ => rfl)
  have hop : ∀ u, S.2.2.2.1 u = none → vx_it S (rk u + 1) u = vx_gn S.2.2.1 u := fun u hb => by
    rw [vx_it_s, hb]
    rfl
  have hon : ∀ u, vx_on (vx_it S (rk u + 1) u) := fun u => by
    have aux : ∀ n u, vx_on (vx_it S n u) := by
      intro n
      induction n with
      | zero => exact fun u => ⟨_, _, _, rfl⟩
      | succ n ih =>
        intro u
        rw [vx_it_s]
        cases hb : S.2.2.2.1 u with
        | none => exact ⟨_, _, _, rfl⟩
        | some p =>
          obtain ⟨B, e⟩ := p
          obtain ⟨b1, b2⟩ := hB.1 u B e hb
          have := vx_val_on (AR := S.2.2.2.2) (e := e) (L := S.2.2.1 u) ih b1
          rw [b2] at this
          exact this
    exact aux _ u
  -- by rank: well made, nothing negative, what stands in it is used
  have main : ∀ k u, rk u < k → vx_sc (vx_it S (rk u + 1) u) (S.2.2.1 u) ∧ ∀ i : Nat, (i : Int) < S.2.2.1 u → vx_oc i (vx_it S (rk u + 1) u) → vx_U S u i := by
    intro k
    induction k with
    | zero => exact fun u h => absurd h (Nat.not_lt_zero _)
    | succ k ih =>
      intro u hk
      cases hb : S.2.2.2.1 u with
      | none =>
        rw [hop u hb]
        have a0 := hB.2 u
        refine ⟨⟨rfl, Or.inr ⟨Or.inl rfl, vx_vs_sc (by omega) (by omega)⟩, trivial⟩, fun i hi _ => (vx_U_cl S).1 u i hb (by omega) hi⟩
      | some p =>
        obtain ⟨B, e⟩ := p
        obtain ⟨⟨w1, w2⟩, w3, w4⟩ := hW u B e hb
        rw [hth u B e hb]
        -- only the unknowns of the body matter: the others may be made good
        have hlow : ∀ m, vx_mt m B → rk m < k := fun m hm => by
          have := hr u B e m hb hm
          omega
        have hg : vx_gd (fun m => if rk m < k then vx_it S (rk m + 1) m else vx_gn (fun _ => 0) m) := fun m => by
          try dsimp only
          by_cases c : rk m < k
          · rw [if_pos c]
            exact ⟨hon m, fun v hv => vx_sc_oc (ih m c).1 hv⟩
          · rw [if_neg c]
            refine ⟨⟨_, _, _, rfl⟩, fun v hv => ?_⟩
            rcases hv with ⟨h, _⟩ | h | h
            · have h' : (1 : Int) = 2 := h
              exact absurd h' (by decide)
            · exact h.elim
            · exact h.elim
        have hv : ∀ L e, vx_val (fun m => vx_it S (rk m + 1) m) S.2.2.2.2 B e L = vx_val (fun m => if rk m < k then vx_it S (rk m + 1) m else vx_gn (fun _ => 0) m) S.2.2.2.2 B e L := fun L e => vx_val_th (fun m hm => by rw [if_pos (hlow m hm)]) (fun _ _ => rfl)
        have hfv : ∀ z, vx_fv (vx_us (fun m => if rk m < k then vx_it S (rk m + 1) m else vx_gn (fun _ => 0) m)) S.2.2.2.2 z B → vx_fv (vx_U S) S.2.2.2.2 z B := fun z hz => by
          refine vx_fv_mono' w3.2.2 (fun m i hm hi hu => ?_) hz
          have hu' : vx_oc i (if rk m < k then vx_it S (rk m + 1) m else vx_gn (fun _ => 0) m) := hu
          rw [if_pos (hlow m hm)] at hu'
          exact (ih m (hlow m hm)).2 i hi hu'
        rw [hv]
        refine ⟨vx_val_sc hg (hB.2 u) w3.2.2 (fun m hm => ?_) (fun z hz => ⟨hSc u B e z hb (hfv z hz), w4 z⟩), fun i hi ho => ?_⟩
        · try dsimp only
          rw [if_pos (hlow m hm)]
          exact (ih m (hlow m hm)).1
        · rcases vx_oc_fv hg ho with ⟨z, h1, h2⟩ | h
          · have := (vx_U_cl S).2 u B e z hb (hfv z h1)
            rw [h2] at this
            exact this
          · omega
  refine ⟨fun u => vx_it S (rk u + 1) u, ⟨fun u => ⟨hon u, fun v hv => vx_sc_oc (main (rk u + 1) u (by omega)).1 hv⟩, fun u _ _ => (main (rk u + 1) u (by omega)).1, hth⟩, hop, fun u => (main (rk u + 1) u (by omega)).2⟩
