section
/-! ===== solutions: what the unknowns' values must keep ===== -/
/-- the unknown m stands in it -/
def vx_mt (m : Int) : rf_N → Prop
  | .leaf => False
  | .inner _ q _ F X => (q.1 = 3 ∧ q.2 = m) ∨ (q.1 ≠ 3 ∧ vx_mt m F) ∨ vx_mt m X
theorem vx_val_th {th th' : Int → rf_N} {AR AR' : Nat → List Int} : ∀ {A : rf_N} {e : Int → Int} {L : Int}, (∀ m, vx_mt m A → th m = th' m) → (∀ j ∈ rf_idx A, AR j = AR' j) → vx_val th AR A e L = vx_val th' AR' A e L
  | .leaf, _, _, _, _ => rfl
  | .inner j q u F X, e, L, hm, hj => by
    have hX := vx_val_th (th := th) (th' := th') (AR := AR) (AR' := AR') (A := X) (e := e) (L := L) (fun m h => hm m (Or.inr (Or.inr h))) (fun i h => hj i (List.mem_cons_of_mem _ (List.mem_append_right _ h)))
    have hF : q.1 ≠ 3 → ∀ e L, vx_val th AR F e L = vx_val th' AR' F e L := fun h3 e L => vx_val_th (fun m h => hm m (Or.inr (Or.inl ⟨h3, h⟩))) (fun i h => hj i (List.mem_cons_of_mem _ (List.mem_append_left _ h)))
    rw [vx_val_in, vx_val_in, hX]
    by_cases h0 : q.1 = 0
    · rw [if_pos h0, if_pos h0, hF (by omega)]
    · rw [if_neg h0, if_neg h0]
      by_cases h3 : q.1 = 3
      · rw [if_pos h3, if_pos h3, hm q.2 (Or.inl ⟨h3, rfl⟩), hj j List.mem_cons_self]
      · rw [if_neg h3, if_neg h3, hF h3]
/-- a place in a row -/
def vx_ii : List Int → Int → Int
  | [], _ => 0
  | x :: xs, w => if x = w then 0 else 1 + vx_ii xs w
theorem vx_ii_c (x : Int) (xs : List Int) (w : Int) : vx_ii (x :: xs) w = if x = w then 0 else 1 + vx_ii xs w := rfl
theorem vx_ii_0 : ∀ (xs : List Int) (w : Int), 0 ≤ vx_ii xs w
  | [], _ => Int.le_refl _
  | x :: xs, w => by
    rw [vx_ii_c]
    have := vx_ii_0 xs w
    by_cases h : x = w
    · rw [if_pos h]
      exact Int.le_refl _
    · rw [if_neg h]
      omega
theorem vx_ii_lt : ∀ {xs : List Int} {w : Int}, w ∈ xs → vx_ii xs w < (xs.length : Int)
  | [], _, h => absurd h List.not_mem_nil
  | x :: xs, w, h => by
    rw [vx_ii_c, List.length_cons]
    by_cases hx : x = w
    · rw [if_pos hx]
      omega
    · rw [if_neg hx]
      rcases List.mem_cons.mp h with rfl | h
      · exact absurd rfl hx
      · have := vx_ii_lt h
        omega
theorem vx_ii_at : ∀ {xs : List Int} {w : Int} {i : Nat}, xs.Nodup → xs[i]? = some w → vx_ii xs w = (i : Int)
  | [], _, _, _, h => by simp at h
  | x :: xs, w, 0, _, h => by
    have : x = w := by simpa using h
    rw [vx_ii_c]
    rw [if_pos this]
    rfl
  | x :: xs, w, i + 1, hn, h => by
    rw [List.getElem?_cons_succ] at h
    obtain ⟨n1, n2⟩ := List.nodup_cons.mp hn
    rw [vx_ii_c]
    have hx : x ≠ w := fun e => n1 (by rw [e]; exact List.mem_of_getElem? h)
    rw [if_neg hx, vx_ii_at n2 h]
    omega
theorem vx_ii_get : ∀ {xs : List Int} {w : Int}, w ∈ xs → xs[(vx_ii xs w).toNat]? = some w
  | [], _, h => absurd h List.not_mem_nil
  | x :: xs, w, h => by
    rw [vx_ii_c]
    by_cases hx : x = w
    · rw [if_pos hx, hx]
      rfl
    · rw [if_neg hx]
      rcases List.mem_cons.mp h with rfl | h
      · exact absurd rfl hx
      · have h0 := vx_ii_0 xs w
        rw [show (1 + vx_ii xs w).toNat = (vx_ii xs w).toNat + 1 by omega, List.getElem?_cons_succ]
        exact vx_ii_get h
theorem vx_getD {xs : List Int} {i : Nat} {w : Int} (h : xs[i]? = some w) : xs.getD i (-1) = w := by
  rw [List.getD_eq_getElem?_getD, h]
  rfl
theorem vx_ix_hi {xs : List Int} {L : Int} {i : Int} (hi : 0 ≤ i) : vx_ix xs L ((xs.length : Int) + i) = L + i := by
  unfold vx_ix
  rw [if_neg (by omega)]
  omega
/-- going into the body of an unknown -/
theorem vx_enter {th : Int → rf_N} {AR : Nat → List Int} {m : Int} {B : rf_N} {e e' : Int → Int} {xs : List Int} {L : Int} (hg : vx_gd th) (hm : th m = vx_val th AR B e (xs.length : Int)) (hlt : ∀ z, e z < (xs.length : Int)) (hP : ∀ z, 0 ≤ e z → e' z = xs.getD (e z).toNat (-1)) : vx_re (vx_ix xs L) (th m) = vx_val th AR B e' L := by
  have h1 : vx_re (vx_ix xs L) (vx_val th AR B e (xs.length : Int)) = vx_val th AR B (fun v => vx_ix xs L (e v)) L := vx_val_re hg (fun i hi => vx_ix_hi hi)
  rw [hm, h1]
  refine vx_val_cg hg (fun z hz => ?_)
  have h2 := vx_fv_oc hg (e := e) (L := (xs.length : Int)) hz
  rw [← hm] at h2
  have h3 := (hg m).2 _ h2
  show vx_ix xs L (e z) = e' z
  rw [hP z h3]
  unfold vx_ix
  rw [if_pos (hlt z)]
/-- an unknown before distinct variables is this term: what its value is -/
theorem vx_bind {th : Int → rf_N} {AR : Nat → List Int} {u : Int} {B : rf_N} {e eu : Int → Int} {xs : List Int} {L : Int} (hg : vx_gd th) (hs : vx_sc (th u) (xs.length : Int)) (hn : xs.Nodup) (hx : ∀ x ∈ xs, x < L) (he : ∀ z, e z < L) (hP : ∀ z (i : Nat), xs[i]? = some (e z) → eu z = (i : Int)) (h : vx_re (vx_ix xs L) (th u) = vx_val th AR B e L) : th u = vx_val th AR B eu (xs.length : Int) := by
  have h1 : vx_re (fun w => if L ≤ w then (xs.length : Int) + (w - L) else vx_ii xs w) (vx_re (vx_ix xs L) (th u)) = th u := by
    rw [vx_re_re]
    refine vx_re_id hs (fun v hv => ?_)
    have v0 := (hg u).2 v hv
    try dsimp only
    unfold vx_ix
    by_cases hl : v < (xs.length : Int)
    · rw [if_pos hl]
      have hi : v.toNat < xs.length := by omega
      have hg := List.getElem?_eq_getElem hi
      rw [vx_getD hg, if_neg (by have := hx _ (List.mem_of_getElem? hg); omega), vx_ii_at hn hg]
      omega
    · rw [if_neg hl, if_pos (by omega)]
      omega
  rw [h] at h1
  have h2 : vx_re (fun w => if L ≤ w then (xs.length : Int) + (w - L) else vx_ii xs w) (vx_val th AR B e L) = vx_val th AR B (fun v => if L ≤ e v then (xs.length : Int) + (e v - L) else vx_ii xs (e v)) (xs.length : Int) := vx_val_re hg (fun i hi => by
    try dsimp only
    rw [if_pos (by omega)]
    omega)
  rw [← h1, h2]
  refine vx_val_cg hg (fun z hz => ?_)
  have h3 := vx_fv_oc hg (e := e) (L := L) hz
  rw [← h] at h3
  obtain ⟨v, v1, v2⟩ := vx_oc_re.mp h3
  have v0 := (hg u).2 v v1
  have ez := he z
  try dsimp only
  rw [if_neg (by omega)]
  unfold vx_ix at v2
  by_cases hl : v < (xs.length : Int)
  · rw [if_pos hl] at v2
    have hi : v.toNat < xs.length := by omega
    have hg := List.getElem?_eq_getElem hi
    rw [vx_getD hg] at v2
    rw [v2] at hg
    rw [vx_ii_at hn hg, hP z v.toNat hg]
  · rw [if_neg hl] at v2
    omega
theorem vx_same {th : Int → rf_N} {u : Int} {xs ys : List Int} {L : Int} (hg : vx_gd th) (hl : xs.length = ys.length) : vx_re (vx_ix xs L) (th u) = vx_re (vx_ix ys L) (th u) ↔ ∀ i : Nat, i < xs.length → vx_oc (i : Int) (th u) → xs[i]? = ys[i]? := by
  rw [vx_re_eq]
  constructor
  · intro h i hi ho
    have := h i ho
    unfold vx_ix at this
    rw [if_pos (by omega), if_pos (by omega), Int.toNat_natCast, vx_gD hi, vx_gD (by omega)] at this
    rw [List.getElem?_eq_getElem hi, List.getElem?_eq_getElem (by omega), this]
  · intro h v hv
    have v0 := (hg u).2 v hv
    unfold vx_ix
    by_cases hc : v < (xs.length : Int)
    · have := h v.toNat (by omega) (by rw [Int.toNat_of_nonneg v0]; exact hv)
      rw [if_pos hc, if_pos (by omega), List.getD_eq_getElem?_getD, List.getD_eq_getElem?_getD, this]
    · rw [if_neg hc, if_neg (by omega), hl]
theorem vx_sc_re {ρ : Int → Int} {a L : Int} (h0 : 0 ≤ L) : ∀ {A : rf_N} {b : Int}, a ≤ b → vx_sc A b → (∀ v, vx_oc v A → v < a → 0 ≤ ρ v ∧ ρ v < L) → (∀ v, a ≤ v → ρ v = L + (v - a)) → vx_sc (vx_re ρ A) (L + (b - a))
  | .leaf, _, _, _, _, _ => trivial
  | .inner j q u F X, b, hb, hs, hv, hr => by
    obtain ⟨_, hs, hX⟩ := hs
    refine ⟨rfl, ?_, vx_sc_re h0 hb hX (fun v h => hv v (Or.inr (Or.inr h))) hr⟩
    rcases hs with ⟨h1, h2, hF⟩ | ⟨h1, hF⟩
    · refine Or.inl ⟨h1, ?_, ?_⟩
      · show (if q.1 = 2 then ρ q.2 else q.2) = 0
        rw [if_neg (by omega)]
        exact h2
      · have := vx_sc_re h0 (b := b + 1) (by omega) hF (fun v h => hv v (Or.inr (Or.inl h))) hr
        rw [show L + (b + 1 - a) = L + (b - a) + 1 by omega] at this
        exact this
    · refine Or.inr ⟨?_, vx_sc_re h0 hb hF (fun v h => hv v (Or.inr (Or.inl h))) hr⟩
      rcases h1 with h1 | ⟨h1, h2, h3⟩
      · exact Or.inl h1
      · refine Or.inr ⟨h1, ?_⟩
        show 0 ≤ (if q.1 = 2 then ρ q.2 else q.2) ∧ (if q.1 = 2 then ρ q.2 else q.2) < L + (b - a)
        rw [if_pos h1]
        by_cases c : q.2 < a
        · have := hv q.2 (Or.inl ⟨h1, rfl⟩) c
          omega
        · rw [hr q.2 (by omega)]
          omega
/-- its nodes are of the four kinds, its calls have as many ARGs as they must -/
def vx_ok (ar : Int → Int) (AR : Nat → List Int) : rf_N → Prop
  | .leaf => True
  | .inner j q _ F X => (((q.1 = 0 ∨ q.1 = 1 ∨ q.1 = 2) ∧ vx_ok ar AR F) ∨ (q.1 = 3 ∧ ((AR j).length : Int) = ar q.2)) ∧ vx_ok ar AR X
theorem vx_ok_cg {ar ar' : Int → Int} {AR AR' : Nat → List Int} : ∀ {A : rf_N}, (∀ m, vx_mt m A → ar' m = ar m) → (∀ j ∈ rf_idx A, AR' j = AR j) → vx_ok ar AR A → vx_ok ar' AR' A
  | .leaf, _, _, _ => trivial
  | .inner j q u F X, hm, hj, h => by
    refine ⟨?_, vx_ok_cg (fun m z => hm m (Or.inr (Or.inr z))) (fun i z => hj i (List.mem_cons_of_mem _ (List.mem_append_right _ z))) h.2⟩
    rcases h.1 with ⟨h1, h2⟩ | ⟨h1, h2⟩
    · exact Or.inl ⟨h1, vx_ok_cg (fun m z => hm m (Or.inr (Or.inl ⟨by omega, z⟩))) (fun i z => hj i (List.mem_cons_of_mem _ (List.mem_append_left _ z))) h2⟩
    · exact Or.inr ⟨h1, by rw [hj j List.mem_cons_self, hm q.2 (Or.inl ⟨h1, rfl⟩)]; exact h2⟩
/-- a state of solving: how many unknowns, how many nodes, arities, bodies with what their variables are, ARGs by node -/
abbrev vx_S : Type := Int × Int × (Int → Int) × (Int → Option (rf_N × (Int → Int))) × (Nat → List Int)
def vx_So (S : vx_S) (th : Int → rf_N) : Prop := vx_gd th ∧ (∀ u, 0 ≤ u → u < S.1 → vx_sc (th u) (S.2.2.1 u)) ∧ ∀ u B e, S.2.2.2.1 u = some (B, e) → th u = vx_val th S.2.2.2.2 B e (S.2.2.1 u)
/-- a tree over the unknowns and nodes of the state; its calls have as many ARGs as they must -/
def vx_in (S : vx_S) (A : rf_N) : Prop := (∀ m, vx_mt m A → 0 ≤ m ∧ m < S.1) ∧ (∀ j ∈ rf_idx A, (j : Int) < S.2.1) ∧ vx_ok S.2.2.1 S.2.2.2.2 A
def vx_W (S : vx_S) : Prop := ∀ u B e, S.2.2.2.1 u = some (B, e) → (0 ≤ u ∧ u < S.1) ∧ vx_in S B ∧ ∀ z, e z < S.2.2.1 u
/-- more is known -/
def vx_le (S T : vx_S) : Prop := (S.1 ≤ T.1 ∧ S.2.1 ≤ T.2.1) ∧ (∀ u, 0 ≤ u → u < S.1 → T.2.2.1 u = S.2.2.1 u) ∧ (∀ u B e, S.2.2.2.1 u = some (B, e) → T.2.2.2.1 u = some (B, e)) ∧ (∀ j : Nat, (j : Int) < S.2.1 → T.2.2.2.2 j = S.2.2.2.2 j)
theorem vx_le_refl (S : vx_S) : vx_le S S := ⟨⟨Int.le_refl _, Int.le_refl _⟩, fun _ _ _ => rfl, fun _ _ _ h => h, fun _ _ => rfl⟩
theorem vx_le_trans {S T R : vx_S} (h1 : vx_le S T) (h2 : vx_le T R) : vx_le S R := by
  obtain ⟨⟨a1, a2⟩, a3, a4, a5⟩ := h1
  obtain ⟨⟨b1, b2⟩, b3, b4, b5⟩ := h2
  exact ⟨⟨by omega, by omega⟩, fun u h0 hu => (b3 u h0 (by omega)).trans (a3 u h0 hu), fun u B e h => b4 u B e (a4 u B e h), fun j hj => (b5 j (by omega)).trans (a5 j hj)⟩
theorem vx_in_le {S T : vx_S} {A : rf_N} (h : vx_le S T) (hA : vx_in S A) : vx_in T A := ⟨fun m hm => by have := hA.1 m hm; have := h.1; omega, fun j hj => by have := hA.2.1 j hj; have := h.1; omega, vx_ok_cg (fun m hm => h.2.1 m (hA.1 m hm).1 (hA.1 m hm).2) (fun j hj => h.2.2.2 j (hA.2.1 j hj)) hA.2.2⟩
theorem vx_val_le {S T : vx_S} {A : rf_N} {th : Int → rf_N} {e : Int → Int} {L : Int} (h : vx_le S T) (hA : vx_in S A) : vx_val th T.2.2.2.2 A e L = vx_val th S.2.2.2.2 A e L := vx_val_th (fun _ _ => rfl) (fun j hj => h.2.2.2 j (hA.2.1 j hj))
/-- the solutions of the later state are some of those of the earlier one -/
theorem vx_So_le {S T : vx_S} {th : Int → rf_N} (hW : vx_W S) (h : vx_le S T) (hT : vx_So T th) : vx_So S th := by
  obtain ⟨t1, t2, t3⟩ := hT
  refine ⟨t1, fun u h0 hu => ?_, fun u B e hb => ?_⟩
  · have := t2 u h0 (by have := h.1; omega)
    rw [h.2.1 u h0 hu] at this
    exact this
  · obtain ⟨⟨w1, w2⟩, w3, _⟩ := hW u B e hb
    have := t3 u B e (h.2.2.1 u B e hb)
    rw [h.2.1 u w1 w2, vx_val_le h w3] at this
    exact this
/-- the same for the elder unknowns -/
def vx_ag (n : Int) (th th' : Int → rf_N) : Prop := ∀ u, 0 ≤ u → u < n → th' u = th u
theorem vx_val_ag {S : vx_S} {A : rf_N} {th th' : Int → rf_N} {AR : Nat → List Int} {e : Int → Int} {L : Int} (h : vx_ag S.1 th th') (hA : vx_in S A) : vx_val th' AR A e L = vx_val th AR A e L := vx_val_th (fun m hm => h m (hA.1 m hm).1 (hA.1 m hm).2) (fun _ _ => rfl)
theorem vx_sb_leaf {a : rf_N} (h : vx_on a) : vx_sb a .leaf = a := by
  obtain ⟨k, h, F, rfl⟩ := h
  rfl
/-- an unknown gets a new one in its place, with fewer ARGs: each solution that does without the others stays one -/
theorem vx_nar {S T : vx_S} {th : Int → rf_N} {u : Int} {j : Nat} {F : rf_N} {eu : Int → Int} {zs ks : List Int} (hW : vx_W S) (hle : vx_le S T) (hS : vx_So S th) (hu : 0 ≤ u ∧ u < S.1) (h1 : T.1 = S.1 + 1) (ha : T.2.2.1 S.1 = (ks.length : Int)) (hb : ∀ v, T.2.2.2.1 v = if v = u then some (rf_n j 3 S.1 F .leaf, eu) else S.2.2.2.1 v) (hz : T.2.2.2.2 j = zs) (hk : zs.map eu = ks) (hn : ks.Nodup) (hr : ∀ k ∈ ks, 0 ≤ k ∧ k < S.2.2.1 u) (hus : ∀ v, vx_oc v (th u) → v < S.2.2.1 u → v ∈ ks) : ∃ th', vx_So T th' ∧ vx_ag S.1 th th' := by
  obtain ⟨s1, s2, s3⟩ := hS
  have su := s2 u hu.1 hu.2
  have eu' := hle.2.1 u hu.1 hu.2
  refine ⟨fun m => if m = S.1 then vx_re (fun v => if v < S.2.2.1 u then vx_ii ks v else (ks.length : Int) + (v - S.2.2.1 u)) (th u) else th m, ?_, fun m _ hm => if_neg (by omega)⟩
  have hg : vx_gd (fun m => if m = S.1 then vx_re (fun v => if v < S.2.2.1 u then vx_ii ks v else (ks.length : Int) + (v - S.2.2.1 u)) (th u) else th m) := fun m => by
    try dsimp only
    by_cases c : m = S.1
    · rw [if_pos c]
      refine ⟨vx_re_on (s1 u).1, fun v hv => ?_⟩
      obtain ⟨w, w1, w2⟩ := vx_oc_re.mp hv
      by_cases cw : w < S.2.2.1 u
      · rw [if_pos cw] at w2
        have := vx_ii_0 ks w
        omega
      · rw [if_neg cw] at w2
        omega
    · rw [if_neg c]
      exact s1 m
  have hag : vx_ag S.1 th (fun m => if m = S.1 then vx_re (fun v => if v < S.2.2.1 u then vx_ii ks v else (ks.length : Int) + (v - S.2.2.1 u)) (th u) else th m) := fun m _ hm => if_neg (by omega)
  refine ⟨hg, fun v v0 hv => ?_, fun v B e hB => ?_⟩
  · dsimp only
    by_cases c : v = S.1
    · rw [if_pos c, c, ha]
      have := vx_sc_re (ρ := fun v => if v < S.2.2.1 u then vx_ii ks v else (ks.length : Int) + (v - S.2.2.1 u)) (a := S.2.2.1 u) (L := (ks.length : Int)) (by omega) (Int.le_refl _) su (fun v hv hl => by
        try dsimp only
        rw [if_pos hl]
        exact ⟨vx_ii_0 _ _, vx_ii_lt (hus v hv hl)⟩) (fun v hv => if_neg (by omega))
      rw [show (ks.length : Int) + (S.2.2.1 u - S.2.2.1 u) = (ks.length : Int) by omega] at this
      exact this
    · rw [if_neg c, hle.2.1 v v0 (by omega)]
      exact s2 v v0 (by omega)
  · rw [hb v] at hB
    by_cases c : v = u
    · rw [if_pos c] at hB
      obtain ⟨rfl, rfl⟩ := Prod.mk.inj (Option.some.inj hB)
      rw [c, eu', hag u hu.1 hu.2]
      rw [vx_val_in, if_neg (by show ¬ ((3 : Int) = 0); decide), if_pos rfl, hz, hk]
      try dsimp only
      rw [if_pos rfl, vx_re_re]
      have e1 : vx_val (fun m => if m = S.1 then vx_re (fun v => if v < S.2.2.1 u then vx_ii ks v else (ks.length : Int) + (v - S.2.2.1 u)) (th u) else th m) T.2.2.2.2 .leaf eu (S.2.2.1 u) = .leaf := rfl
      rw [e1, vx_sb_leaf (vx_re_on (s1 u).1)]
      refine (vx_re_id su (fun w hw => ?_)).symm
      have w0 := (s1 u).2 w hw
      try dsimp only
      unfold vx_ix
      by_cases cw : w < S.2.2.1 u
      · rw [if_pos cw]
        have hm := hus w hw cw
        have l1 := vx_ii_lt hm
        rw [if_pos l1, vx_getD (vx_ii_get hm)]
      · rw [if_neg cw, if_neg (by omega)]
        omega
    · rw [if_neg c] at hB
      obtain ⟨⟨w1, w2⟩, w3, _⟩ := hW v B e hB
      rw [hag v w1 w2, hle.2.1 v w1 w2, vx_val_ag hag w3, vx_val_le hle w3]
      exact s3 v B e hB
end
section
/-! ===== which ARGs are used; a state without ways back has a solution ===== -/
theorem vx_fv_mono {U V : Int → Int → Prop} {AR : Nat → List Int} {z : Int} (h : ∀ m i, U m i → V m i) : ∀ {A : rf_N}, vx_fv U AR z A → vx_fv V AR z A
  | .leaf, q => q
  | .inner j q u F X, k => by
    rcases k with (⟨k1, k2, k3⟩ | ⟨k1, i, k2, k3⟩ | ⟨k1, k2, k3 | k3⟩) | k
    · exact Or.inl (Or.inl ⟨k1, k2, vx_fv_mono h k3⟩)
    · exact Or.inl (Or.inr (Or.inl ⟨k1, i, k2, h _ _ k3⟩))
    · exact Or.inl (Or.inr (Or.inr ⟨k1, k2, Or.inl k3⟩))
    · exact Or.inl (Or.inr (Or.inr ⟨k1, k2, Or.inr (vx_fv_mono h k3)⟩))
    · exact Or.inr (vx_fv_mono h k)
/-- only what is used of the unknowns and ARGs that stand in it -/
theorem vx_fv_mono' {U V : Int → Int → Prop} {ar : Int → Int} {AR : Nat → List Int} {z : Int} : ∀ {A : rf_N}, vx_ok ar AR A → (∀ m (i : Nat), vx_mt m A → (i : Int) < ar m → U m i → V m i) → vx_fv U AR z A → vx_fv V AR z A
  | .leaf, _, _, q => q
  | .inner j q u F X, o, h, k => by
    rcases k with (⟨k1, k2, k3⟩ | ⟨k1, i, k2, k3⟩ | ⟨k1, k2, k3 | k3⟩) | k
    · refine Or.inl (Or.inl ⟨k1, k2, vx_fv_mono' (ar := ar) ?_ (fun m i hm => h m i (Or.inr (Or.inl ⟨by omega, hm⟩))) k3⟩)
      rcases o.1 with ⟨_, o⟩ | ⟨o, _⟩
      · exact o
      · omega
    · refine Or.inl (Or.inr (Or.inl ⟨k1, i, k2, h _ _ (Or.inl ⟨k1, rfl⟩) ?_ k3⟩))
      rcases o.1 with ⟨o, _⟩ | ⟨_, o⟩
      · omega
      · obtain ⟨hi, _⟩ := List.getElem?_eq_some_iff.mp k2
        omega
    · exact Or.inl (Or.inr (Or.inr ⟨k1, k2, Or.inl k3⟩))
    · refine Or.inl (Or.inr (Or.inr ⟨k1, k2, Or.inr (vx_fv_mono' (ar := ar) ?_ (fun m i hm => h m i (Or.inr (Or.inl ⟨k2, hm⟩))) k3)⟩))
      rcases o.1 with ⟨_, o⟩ | ⟨o, _⟩
      · exact o
      · omega
    · exact Or.inr (vx_fv_mono' (ar := ar) o.2 (fun m i hm => h m i (Or.inr (Or.inr hm))) k)
/-- the least: all ARGs of an open unknown; of another, what its body has -/
def vx_cl (S : vx_S) (P : Int → Int → Prop) : Prop := (∀ v i, S.2.2.2.1 v = none → 0 ≤ i → i < S.2.2.1 v → P v i) ∧ (∀ v B e z, S.2.2.2.1 v = some (B, e) → vx_fv P S.2.2.2.2 z B → P v (e z))
def vx_U (S : vx_S) (u j : Int) : Prop := ∀ P : Int → Int → Prop, vx_cl S P → P u j
theorem vx_U_cl (S : vx_S) : vx_cl S (vx_U S) := ⟨fun v i h0 h1 h2 P hP => hP.1 v i h0 h1 h2, fun v B e z hb hz P hP => hP.2 v B e z hb (vx_fv_mono (fun m i hu => hu P hP) hz)⟩
theorem vx_U_inv {S : vx_S} {u j : Int} (h : vx_U S u j) : (S.2.2.2.1 u = none ∧ 0 ≤ j ∧ j < S.2.2.1 u) ∨ ∃ B e z, S.2.2.2.1 u = some (B, e) ∧ vx_fv (vx_U S) S.2.2.2.2 z B ∧ e z = j := by
  have key : vx_cl S (fun u j => vx_U S u j ∧ ((S.2.2.2.1 u = none ∧ 0 ≤ j ∧ j < S.2.2.1 u) ∨ ∃ B e z, S.2.2.2.1 u = some (B, e) ∧ vx_fv (vx_U S) S.2.2.2.2 z B ∧ e z = j)) := by
    refine ⟨fun v i h0 h1 h2 => ⟨(vx_U_cl S).1 v i h0 h1 h2, Or.inl ⟨h0, h1, h2⟩⟩, fun v B e z hb hz => ?_⟩
    have hz' := vx_fv_mono (V := vx_U S) (fun m i hu => hu.1) hz
    exact ⟨(vx_U_cl S).2 v B e z hb hz', Or.inr ⟨B, e, z, hb, hz', rfl⟩⟩
  exact (h _ key).2
/-- what is used stands for an ARG -/
def vx_Sc (S : vx_S) : Prop := ∀ u B e z, S.2.2.2.1 u = some (B, e) → vx_fv (vx_U S) S.2.2.2.2 z B → 0 ≤ e z
/-- no ways back -/
def vx_rk (S : vx_S) (rk : Int → Nat) : Prop := ∀ u B e m, S.2.2.2.1 u = some (B, e) → vx_mt m B → rk m < rk u
theorem vx_val_on {th : Int → rf_N} {AR : Nat → List Int} {e : Int → Int} {L : Int} (hg : ∀ m, vx_on (th m)) : ∀ {A : rf_N}, A ≠ .leaf → vx_on (vx_val th AR (vx_1 A) e L)
  | .leaf, h => absurd rfl h
  | .inner j q u F X, _ => by
    show vx_on (vx_val th AR (.inner j q () F .leaf) e L)
    rw [vx_val_in]
    by_cases h0 : q.1 = 0
    · rw [if_pos h0]
      exact ⟨_, _, _, rfl⟩
    · rw [if_neg h0]
      by_cases h3 : q.1 = 3
      · rw [if_pos h3]
        have e1 : vx_val th AR .leaf e L = .leaf := rfl
        rw [e1, vx_sb_leaf (vx_re_on (hg _))]
        exact vx_re_on (hg _)
      · rw [if_neg h3]
        exact ⟨_, _, _, rfl⟩
theorem vx_sc_sb {a X : rf_N} {b : Int} (h : vx_on a) (ha : vx_sc a b) (hX : vx_sc X b) : vx_sc (vx_sb a X) b := by
  obtain ⟨k, h, F, rfl⟩ := h
  exact ⟨ha.1, ha.2.1, hX⟩
/-- the value is well made where what is used is -/
theorem vx_val_sc {th : Int → rf_N} {ar : Int → Int} {AR : Nat → List Int} (hg : vx_gd th) : ∀ {A : rf_N} {e : Int → Int} {L : Int}, 0 ≤ L → vx_ok ar AR A → (∀ m, vx_mt m A → vx_sc (th m) (ar m)) → (∀ z, vx_fv (vx_us th) AR z A → 0 ≤ e z ∧ e z < L) → vx_sc (vx_val th AR A e L) L
  | .leaf, _, _, _, _, _, _ => trivial
  | .inner j q u F X, e, L, hL, ho, hm, hz => by
    have hX := vx_val_sc hg (e := e) hL ho.2 (fun m h => hm m (Or.inr (Or.inr h))) (fun z h => hz z (Or.inr h))
    rw [vx_val_in]
    by_cases h0 : q.1 = 0
    · rw [if_pos h0]
      have oF : vx_ok ar AR F := by
        rcases ho.1 with ⟨_, o⟩ | ⟨o, _⟩
        · exact o
        · omega
      refine ⟨rfl, Or.inl ⟨rfl, rfl, vx_val_sc hg (by omega) oF (fun m h => hm m (Or.inr (Or.inl ⟨by omega, h⟩))) (fun z h => ?_)⟩, hX⟩
      unfold vx_up
      by_cases c : z = q.2
      · rw [if_pos c]
        omega
      · rw [if_neg c]
        have := hz z (Or.inl (Or.inl ⟨h0, c, h⟩))
        omega
    · rw [if_neg h0]
      by_cases h3 : q.1 = 3
      · rw [if_pos h3]
        refine vx_sc_sb (vx_re_on (hg _).1) ?_ hX
        have hl : ((AR j).length : Int) = ar q.2 := by
          rcases ho.1 with ⟨o, _⟩ | ⟨_, o⟩
          · omega
          · exact o
        have := vx_sc_re (ρ := vx_ix ((AR j).map e) L) (a := ar q.2) hL (Int.le_refl _) (hm q.2 (Or.inl ⟨h3, rfl⟩)) (fun v hv hl' => by
          have v0 := (hg q.2).2 v hv
          unfold vx_ix
          rw [List.length_map, if_pos (by omega), vx_getD_map e _ _ (by omega)]
          have hi : v.toNat < (AR j).length := by omega
          rw [vx_gD hi]
          refine hz _ (Or.inl (Or.inr (Or.inl ⟨h3, v.toNat, List.getElem?_eq_getElem hi, ?_⟩)))
          show vx_oc ((v.toNat : Nat) : Int) (th q.2)
          rw [Int.toNat_of_nonneg v0]
          exact hv) (fun v hv => by
          unfold vx_ix
          rw [List.length_map, if_neg (by omega), hl])
        rw [show L + (ar q.2 - ar q.2) = L by omega] at this
        exact this
      · rw [if_neg h3]
        have o12 : (q.1 = 1 ∨ q.1 = 2) ∧ vx_ok ar AR F := by
          rcases ho.1 with ⟨o, o'⟩ | ⟨o, _⟩
          · exact ⟨by omega, o'⟩
          · omega
        refine ⟨rfl, Or.inr ⟨?_, vx_val_sc hg hL o12.2 (fun m h => hm m (Or.inr (Or.inl ⟨h3, h⟩))) (fun z h => hz z (Or.inl (Or.inr (Or.inr ⟨h0, h3, Or.inr h⟩))))⟩, hX⟩
        rcases o12.1 with c | c
        · exact Or.inl c
        · refine Or.inr ⟨c, ?_⟩
          show 0 ≤ (if q.1 = 2 then e q.2 else q.2) ∧ (if q.1 = 2 then e q.2 else q.2) < L
          rw [if_pos c]
          exact hz q.2 (Or.inl (Or.inr (Or.inr ⟨h0, h3, Or.inl ⟨c, rfl⟩⟩)))
/-- variables i, i + 1 .. as a row -/
def vx_vs : Nat → Int → rf_N
  | 0, _ => .leaf
  | n + 1, i => rf_n 0 2 i .leaf (vx_vs n (i + 1))
theorem vx_vs_sc {b : Int} : ∀ {n : Nat} {i : Int}, 0 ≤ i → i + (n : Int) ≤ b → vx_sc (vx_vs n i) b
  | 0, _, _, _ => trivial
  | n + 1, i, h0, h1 => ⟨rfl, Or.inr ⟨Or.inr ⟨rfl, h0, by show i < b; omega⟩, trivial⟩, vx_vs_sc (by omega) (by omega)⟩
/-- an open unknown as a head of its own, before all its ARGs -/
def vx_gn (ar : Int → Int) (u : Int) : rf_N := rf_n 0 1 (-1 - u) (vx_vs (ar u).toNat 0) .leaf
def vx_it (S : vx_S) : Nat → Int → rf_N
  | 0, u => vx_gn S.2.2.1 u
  | n + 1, u => (S.2.2.2.1 u).elim (vx_gn S.2.2.1 u) (fun p => vx_val (vx_it S n) S.2.2.2.2 p.1 p.2 (S.2.2.1 u))
theorem vx_it_s (S : vx_S) (n : Nat) (u : Int) : vx_it S (n + 1) u = (S.2.2.2.1 u).elim (vx_gn S.2.2.1 u) (fun p => vx_val (vx_it S n) S.2.2.2.2 p.1 p.2 (S.2.2.1 u)) := rfl
theorem vx_it_st {S : vx_S} {rk : Int → Nat} (hr : vx_rk S rk) : ∀ (k : Nat) (u : Int) (n n' : Nat), rk u < k → rk u < n → rk u < n' → vx_it S n u = vx_it S n' u
  | 0, _, _, _, h, _, _ => absurd h (Nat.not_lt_zero _)
  | k + 1, u, 0, _, _, h, _ => absurd h (Nat.not_lt_zero _)
  | k + 1, u, _ + 1, 0, _, _, h => absurd h (Nat.not_lt_zero _)
  | k + 1, u, n + 1, n' + 1, h, h1, h2 => by
    rw [vx_it_s, vx_it_s]
    cases hb : S.2.2.2.1 u with
    | none => rfl
    | some p =>
      obtain ⟨B, e⟩ := p
      refine vx_val_th (fun m hm => ?_) (fun _ _ => rfl)
      have := hr u B e m hb hm
      exact vx_it_st hr k m n n' (by omega) (by omega) (by omega)
/-- bodies are single terms -/
def vx_B1 (S : vx_S) : Prop := (∀ u B e, S.2.2.2.1 u = some (B, e) → B ≠ .leaf ∧ vx_1 B = B) ∧ ∀ u, 0 ≤ S.2.2.1 u
theorem vx_fin {S : vx_S} {rk : Int → Nat} (hW : vx_W S) (hB : vx_B1 S) (hr : vx_rk S rk) (hSc : vx_Sc S) : ∃ th, vx_So S th ∧ (∀ u, S.2.2.2.1 u = none → th u = vx_gn S.2.2.1 u) ∧ ∀ u (i : Nat), (i : Int) < S.2.2.1 u → vx_oc i (th u) → vx_U S u i := by
  have hS : ∀ u n, rk u < n → vx_it S n u = vx_it S (rk u + 1) u := fun u n h => vx_it_st hr (rk u + 1) u n (rk u + 1) (by omega) h (by omega)
  have hth : ∀ u B e, S.2.2.2.1 u = some (B, e) → vx_it S (rk u + 1) u = vx_val (fun m => vx_it S (rk m + 1) m) S.2.2.2.2 B e (S.2.2.1 u) := fun u B e hb => by
    rw [vx_it_s, hb]
    exact vx_val_th (fun m hm => hS m _ (hr u B e m hb hm)) (fun _ _ => rfl)
  have hop : ∀ u, S.2.2.2.1 u = none → vx_it S (rk u + 1) u = vx_gn S.2.2.1 u := fun u hb => by
    rw [vx_it_s, hb]
    rfl
  have hon : ∀ u, vx_on (vx_it S (rk u + 1) u) := fun u => by
    have aux : ∀ n u, vx_on (vx_it S n u) := by
      intro n
      induction n with
      | zero => exact fun u => ⟨_, _, _, rfl⟩
      | succ n ih =>
        intro u
        rw [vx_it_s]
        cases hb : S.2.2.2.1 u with
        | none => exact ⟨_, _, _, rfl⟩
        | some p =>
          obtain ⟨B, e⟩ := p
          obtain ⟨b1, b2⟩ := hB.1 u B e hb
          have := vx_val_on (AR := S.2.2.2.2) (e := e) (L := S.2.2.1 u) ih b1
          rw [b2] at this
          exact this
    exact aux _ u
  -- by rank: well made, nothing negative, what stands in it is used
  have main : ∀ k u, rk u < k → vx_sc (vx_it S (rk u + 1) u) (S.2.2.1 u) ∧ ∀ i : Nat, (i : Int) < S.2.2.1 u → vx_oc i (vx_it S (rk u + 1) u) → vx_U S u i := by
    intro k
    induction k with
    | zero => exact fun u h => absurd h (Nat.not_lt_zero _)
    | succ k ih =>
      intro u hk
      cases hb : S.2.2.2.1 u with
      | none =>
        rw [hop u hb]
        have a0 := hB.2 u
        refine ⟨⟨rfl, Or.inr ⟨Or.inl rfl, vx_vs_sc (by omega) (by omega)⟩, trivial⟩, fun i hi _ => (vx_U_cl S).1 u i hb (by omega) hi⟩
      | some p =>
        obtain ⟨B, e⟩ := p
        obtain ⟨⟨w1, w2⟩, w3, w4⟩ := hW u B e hb
        rw [hth u B e hb]
        -- only the unknowns of the body matter: the others may be made good
        have hlow : ∀ m, vx_mt m B → rk m < k := fun m hm => by
          have := hr u B e m hb hm
          omega
        have hg : vx_gd (fun m => if rk m < k then vx_it S (rk m + 1) m else vx_gn (fun _ => 0) m) := fun m => by
          try dsimp only
          by_cases c : rk m < k
          · rw [if_pos c]
            exact ⟨hon m, fun v hv => vx_sc_oc (ih m c).1 hv⟩
          · rw [if_neg c]
            refine ⟨⟨_, _, _, rfl⟩, fun v hv => ?_⟩
            rcases hv with ⟨h, _⟩ | h | h
            · have h' : (1 : Int) = 2 := h
              exact absurd h' (by decide)
            · exact h.elim
            · exact h.elim
        have hv : ∀ L e, vx_val (fun m => vx_it S (rk m + 1) m) S.2.2.2.2 B e L = vx_val (fun m => if rk m < k then vx_it S (rk m + 1) m else vx_gn (fun _ => 0) m) S.2.2.2.2 B e L := fun L e => vx_val_th (fun m hm => by rw [if_pos (hlow m hm)]) (fun _ _ => rfl)
        have hfv : ∀ z, vx_fv (vx_us (fun m => if rk m < k then vx_it S (rk m + 1) m else vx_gn (fun _ => 0) m)) S.2.2.2.2 z B → vx_fv (vx_U S) S.2.2.2.2 z B := fun z hz => by
          refine vx_fv_mono' w3.2.2 (fun m i hm hi hu => ?_) hz
          have hu' : vx_oc i (if rk m < k then vx_it S (rk m + 1) m else vx_gn (fun _ => 0) m) := hu
          rw [if_pos (hlow m hm)] at hu'
          exact (ih m (hlow m hm)).2 i hi hu'
        rw [hv]
        refine ⟨vx_val_sc hg (hB.2 u) w3.2.2 (fun m hm => ?_) (fun z hz => ⟨hSc u B e z hb (hfv z hz), w4 z⟩), fun i hi ho => ?_⟩
        · try dsimp only
          rw [if_pos (hlow m hm)]
          exact (ih m (hlow m hm)).1
        · rcases vx_oc_fv hg ho with ⟨z, h1, h2⟩ | h
          · have := (vx_U_cl S).2 u B e z hb (hfv z h1)
            rw [h2] at this
            exact this
          · omega
  refine ⟨fun u => vx_it S (rk u + 1) u, ⟨fun u => ⟨hon u, fun v hv => vx_sc_oc (main (rk u + 1) u (by omega)).1 hv⟩, fun u _ _ => (main (rk u + 1) u (by omega)).1, hth⟩, hop, fun u => (main (rk u + 1) u (by omega)).2⟩
end
section
/-! ===== the walk through what an unknown is given, pure ===== -/
theorem vx_03 : ¬ ((0 : Int) = 3) := by decide
theorem vx_30 : ¬ ((3 : Int) = 0) := by decide
/-- the terms of a row, each alone -/
def vx_el : rf_N → List rf_N
  | .leaf => []
  | .inner j q _ F X => .inner j q () F .leaf :: vx_el X
theorem vx_fv_el {U : Int → Int → Prop} {AR : Nat → List Int} {z : Int} : ∀ {A : rf_N}, vx_fv U AR z A ↔ ∃ B ∈ vx_el A, vx_fv U AR z B
  | .leaf => ⟨fun h => h.elim, fun ⟨_, h, _⟩ => absurd h List.not_mem_nil⟩
  | .inner j q u F X => by
    have hX := vx_fv_el (U := U) (AR := AR) (z := z) (A := X)
    constructor
    · rintro (h | h)
      · exact ⟨_, List.mem_cons_self, Or.inl h⟩
      · obtain ⟨B, h1, h2⟩ := hX.mp h
        exact ⟨B, List.mem_cons_of_mem _ h1, h2⟩
    · rintro ⟨B, h1, h2⟩
      rcases List.mem_cons.mp h1 with rfl | h1
      · rcases h2 with h2 | h2
        · exact Or.inl h2
        · exact h2.elim
      · exact Or.inr (hX.mpr ⟨B, h1, h2⟩)
theorem vx_mt_el {m : Int} : ∀ {A : rf_N}, vx_mt m A ↔ ∃ B ∈ vx_el A, vx_mt m B
  | .leaf => ⟨fun h => h.elim, fun ⟨_, h, _⟩ => absurd h List.not_mem_nil⟩
  | .inner j q u F X => by
    have hX := vx_mt_el (m := m) (A := X)
    constructor
    · rintro (h | h | h)
      · exact ⟨_, List.mem_cons_self, Or.inl h⟩
      · exact ⟨_, List.mem_cons_self, Or.inr (Or.inl h)⟩
      · obtain ⟨B, h1, h2⟩ := hX.mp h
        exact ⟨B, List.mem_cons_of_mem _ h1, h2⟩
    · rintro ⟨B, h1, h2⟩
      rcases List.mem_cons.mp h1 with rfl | h1
      · rcases h2 with h2 | h2 | h2
        · exact Or.inl h2
        · exact Or.inr (Or.inl h2)
        · exact h2.elim
      · exact Or.inr (Or.inr (hX.mpr ⟨B, h1, h2⟩))
/-- all that stands free in it is allowed -/
def vx_OK (U : Int → Int → Prop) (AR : Nat → List Int) (al : Int → Prop) (c : rf_N × (Int → Int)) : Prop := ∀ z, vx_fv U AR z c.1 → al (c.2 z)
theorem vx_OK_lam {U : Int → Int → Prop} {AR : Nat → List Int} {al : Int → Prop} {j : Nat} {x L : Int} {F : rf_N} {e : Int → Int} (hL : al L) : vx_OK U AR al (rf_n j 0 x F .leaf, e) ↔ vx_OK U AR al (F, vx_up e x L) := by
  constructor
  · intro h z hz
    show al (vx_up e x L z)
    unfold vx_up
    by_cases c : z = x
    · rw [if_pos c]
      exact hL
    · rw [if_neg c]
      exact h z (Or.inl (Or.inl ⟨rfl, c, hz⟩))
  · intro h z hz
    rcases hz with (⟨_, c, hz⟩ | ⟨c, _⟩ | ⟨c, _⟩) | hz
    · have := h z hz
      have h2 : al (vx_up e x L z) := this
      unfold vx_up at h2
      rw [if_neg c] at h2
      exact h2
    · exact absurd c vx_03
    · exact absurd rfl c
    · exact hz.elim
theorem vx_OK_rig {U : Int → Int → Prop} {AR : Nat → List Int} {al : Int → Prop} {j : Nat} {k h : Int} {F : rf_N} {e : Int → Int} (h0 : k ≠ 0) (h3 : k ≠ 3) : vx_OK U AR al (rf_n j k h F .leaf, e) ↔ (k = 2 → al (e h)) ∧ ∀ A ∈ vx_el F, vx_OK U AR al (A, e) := by
  constructor
  · intro o
    exact ⟨fun c => o h (Or.inl (Or.inr (Or.inr ⟨h0, h3, Or.inl ⟨c, rfl⟩⟩))), fun A hA z hz => o z (Or.inl (Or.inr (Or.inr ⟨h0, h3, Or.inr (vx_fv_el.mpr ⟨A, hA, hz⟩)⟩)))⟩
  · rintro ⟨o1, o2⟩ z hz
    rcases hz with (⟨c, _⟩ | ⟨c, _⟩ | ⟨_, _, ⟨c, hz⟩ | hz⟩) | hz
    · exact absurd c h0
    · exact absurd c h3
    · have hz' : z = h := hz
      rw [hz']
      exact o1 c
    · obtain ⟨A, hA, hz⟩ := vx_fv_el.mp hz
      exact o2 A hA z hz
    · exact hz.elim
theorem vx_OK_call {U : Int → Int → Prop} {AR : Nat → List Int} {al : Int → Prop} {j : Nat} {m : Int} {F : rf_N} {e : Int → Int} : vx_OK U AR al (rf_n j 3 m F .leaf, e) ↔ ∀ (i : Nat) z, (AR j)[i]? = some z → U m i → al (e z) := by
  constructor
  · intro o i z h1 h2
    exact o z (Or.inl (Or.inr (Or.inl ⟨rfl, i, h1, h2⟩)))
  · intro o z hz
    rcases hz with (⟨c, _⟩ | ⟨_, i, h1, h2⟩ | ⟨_, c, _⟩) | hz
    · exact absurd c vx_30
    · exact o i z h1 h2
    · exact absurd rfl c
    · exact hz.elim
/-- what is used is just what the bodies have -/
def vx_ex (S : vx_S) (U : Int → Int → Prop) : Prop := ∀ m B e j, S.2.2.2.1 m = some (B, e) → U m j → ∃ z, vx_fv U S.2.2.2.2 z B ∧ e z = j
theorem vx_ex_U (S : vx_S) : vx_ex S (vx_U S) := fun m B e j hb hu => by
  rcases vx_U_inv hu with ⟨h, _⟩ | ⟨B', e', z, h1, h2, h3⟩
  · rw [hb] at h
    exact absurd h (by simp)
  · rw [hb] at h1
    obtain ⟨rfl, rfl⟩ := Prod.mk.inj (Option.some.inj h1)
    exact ⟨z, h2, h3⟩
/-- good ones: open ones but u, and those with good ones alone in their bodies -/
def vx_eg (S : vx_S) (u : Int) (G : Int → Prop) : Prop := (∀ m, S.2.2.2.1 m = none → m ≠ u → G m) ∧ ∀ m B e, S.2.2.2.1 m = some (B, e) → (∀ x, vx_mt x B → G x) → G m
def vx_O (U : Int → Int → Prop) (G : Int → Prop) (AR : Nat → List Int) (al : Int → Prop) (c : rf_N × (Int → Int)) : Prop := vx_OK U AR al c ∧ ∀ m, vx_mt m c.1 → G m
/-- only unknowns below r stand in it -/
def vx_bl (rk : Int → Nat) (r : Nat) (A : rf_N) : Prop := ∀ m, vx_mt m A → rk m < r
/-- what the walk has found: pend what is still to be walked through, sn which unknowns it has been in, se with which ARGs allowed; u must not be met -/
def vx_H (S : vx_S) (u : Int) (al : Int → Prop) (sn : Int → Prop) (se : Int → Int → Prop) (pend : List (rf_N × (Int → Int))) (root : rf_N × (Int → Int)) : Prop := ∀ U G rk, vx_rk S rk → vx_ex S U → vx_eg S u G → (∀ m, sn m → (∀ c ∈ pend, vx_bl rk (rk m) c.1 → vx_O U G S.2.2.2.2 al c) → G m ∧ ∀ j, U m j → se m j) ∧ ((∀ c ∈ pend, vx_O U G S.2.2.2.2 al c) → vx_O U G S.2.2.2.2 al root)
theorem vx_H_0 {S : vx_S} {u : Int} {al : Int → Prop} {se : Int → Int → Prop} {root : rf_N × (Int → Int)} : vx_H S u al (fun _ => False) se [root] root := fun _ _ _ _ _ _ => ⟨fun _ h => h.elim, fun h => h root List.mem_cons_self⟩
/-- one thing to be walked through gives way to others, by which it is allowed -/
theorem vx_H_rep {S : vx_S} {u : Int} {al : Int → Prop} {sn : Int → Prop} {se : Int → Int → Prop} {c : rf_N × (Int → Int)} {cs pend : List (rf_N × (Int → Int))} {root : rf_N × (Int → Int)} (h : vx_H S u al sn se (c :: pend) root) (hb : ∀ rk r, vx_bl rk r c.1 → ∀ d ∈ cs, vx_bl rk r d.1) (ho : ∀ U G, vx_ex S U → vx_eg S u G → (∀ d ∈ cs, vx_O U G S.2.2.2.2 al d) → vx_O U G S.2.2.2.2 al c) : vx_H S u al sn se (cs ++ pend) root := fun U G rk hr hx hg => by
  obtain ⟨h1, h2⟩ := h U G rk hr hx hg
  refine ⟨fun m hm hp => h1 m hm (fun d hd hl => ?_), fun hp => h2 (fun d hd => ?_)⟩
  · rcases List.mem_cons.mp hd with rfl | hd
    · exact ho U G hx hg (fun d' hd' => hp d' (List.mem_append_left _ hd') (hb rk _ hl d' hd'))
    · exact hp d (List.mem_append_right _ hd) hl
  · rcases List.mem_cons.mp hd with rfl | hd
    · exact ho U G hx hg (fun d' hd' => hp d' (List.mem_append_left _ hd'))
    · exact hp d (List.mem_append_right _ hd)
theorem vx_H_lam {S : vx_S} {u : Int} {al : Int → Prop} {sn : Int → Prop} {se : Int → Int → Prop} {j : Nat} {x L : Int} {F : rf_N} {e : Int → Int} {pend : List (rf_N × (Int → Int))} {root : rf_N × (Int → Int)} (hL : al L) (h : vx_H S u al sn se ((rf_n j 0 x F .leaf, e) :: pend) root) : vx_H S u al sn se ((F, vx_up e x L) :: pend) root := vx_H_rep (cs := [(F, vx_up e x L)]) h (fun rk r hl d hd => by
  rw [List.mem_singleton.mp hd]
  exact fun m hm => hl m (Or.inr (Or.inl ⟨by show (0 : Int) ≠ 3; decide, hm⟩))) (fun U G _ _ ho => ⟨(vx_OK_lam hL).mpr (ho _ List.mem_cons_self).1, fun m hm => by
  rcases hm with ⟨c, _⟩ | ⟨_, hm⟩ | hm
  · exact absurd c vx_03
  · exact (ho _ List.mem_cons_self).2 m hm
  · exact hm.elim⟩)
theorem vx_H_rig {S : vx_S} {u : Int} {al : Int → Prop} {sn : Int → Prop} {se : Int → Int → Prop} {j : Nat} {k h : Int} {F : rf_N} {e : Int → Int} {pend : List (rf_N × (Int → Int))} {root : rf_N × (Int → Int)} (h0 : k ≠ 0) (h3 : k ≠ 3) (ha : k = 2 → al (e h)) (hh : vx_H S u al sn se ((rf_n j k h F .leaf, e) :: pend) root) : vx_H S u al sn se ((vx_el F).map (fun A => (A, e)) ++ pend) root := vx_H_rep hh (fun rk r hl d hd => by
  obtain ⟨A, hA, rfl⟩ := List.mem_map.mp hd
  exact fun m hm => hl m (Or.inr (Or.inl ⟨h3, vx_mt_el.mpr ⟨A, hA, hm⟩⟩))) (fun U G _ _ ho => ⟨(vx_OK_rig h0 h3).mpr ⟨ha, fun A hA => (ho _ (List.mem_map_of_mem hA)).1⟩, fun m hm => by
  rcases hm with ⟨c, _⟩ | ⟨_, hm⟩ | hm
  · exact absurd c h3
  · obtain ⟨A, hA, hm⟩ := vx_mt_el.mp hm
    exact (ho _ (List.mem_map_of_mem hA)).2 m hm
  · exact hm.elim⟩)
/-- a call that is allowed whatever is used -/
theorem vx_H_drop {S : vx_S} {u : Int} {al : Int → Prop} {sn : Int → Prop} {se : Int → Int → Prop} {c : rf_N × (Int → Int)} {pend : List (rf_N × (Int → Int))} {root : rf_N × (Int → Int)} (ho : ∀ U G, vx_ex S U → vx_eg S u G → vx_O U G S.2.2.2.2 al c) (h : vx_H S u al sn se (c :: pend) root) : vx_H S u al sn se pend root := vx_H_rep (cs := []) h (fun _ _ _ _ hd => absurd hd List.not_mem_nil) (fun U G hx hg _ => ho U G hx hg)
theorem vx_mt_call {x m : Int} {j : Nat} {F : rf_N} (h : vx_mt x (rf_n j 3 m F .leaf)) : x = m := by
  rcases h with ⟨_, h⟩ | ⟨c, _⟩ | h
  · exact h.symm
  · exact absurd rfl c
  · exact h.elim
theorem vx_fv_ar {U : Int → Int → Prop} {AR AR' : Nat → List Int} {z : Int} : ∀ {A : rf_N}, (∀ j ∈ rf_idx A, AR' j = AR j) → (vx_fv U AR' z A ↔ vx_fv U AR z A)
  | .leaf, _ => Iff.rfl
  | .inner j q u F X, hj => by
    have a := vx_fv_ar (U := U) (z := z) (A := F) (fun i hi => hj i (List.mem_cons_of_mem _ (List.mem_append_left _ hi)))
    have b := vx_fv_ar (U := U) (z := z) (A := X) (fun i hi => hj i (List.mem_cons_of_mem _ (List.mem_append_right _ hi)))
    show (((q.1 = 0 ∧ z ≠ q.2 ∧ vx_fv U AR' z F) ∨ (q.1 = 3 ∧ ∃ i : Nat, (AR' j)[i]? = some z ∧ U q.2 i) ∨ (q.1 ≠ 0 ∧ q.1 ≠ 3 ∧ ((q.1 = 2 ∧ z = q.2) ∨ vx_fv U AR' z F))) ∨ vx_fv U AR' z X) ↔ (((q.1 = 0 ∧ z ≠ q.2 ∧ vx_fv U AR z F) ∨ (q.1 = 3 ∧ ∃ i : Nat, (AR j)[i]? = some z ∧ U q.2 i) ∨ (q.1 ≠ 0 ∧ q.1 ≠ 3 ∧ ((q.1 = 2 ∧ z = q.2) ∨ vx_fv U AR z F))) ∨ vx_fv U AR z X)
    rw [a, b, hj j List.mem_cons_self]
/-- more is known: the open unknown x got a body -/
theorem vx_H_le {S T : vx_S} {u : Int} {al : Int → Prop} {sn : Int → Prop} {se : Int → Int → Prop} {pend : List (rf_N × (Int → Int))} {root : rf_N × (Int → Int)} (hW : vx_W S) (hle : vx_le S T) (hp : ∀ c ∈ root :: pend, vx_in S c.1) (hop : ∀ G, vx_eg T u G → ∀ m, S.2.2.2.1 m = none → m ≠ u → G m) (h : vx_H S u al sn se pend root) : vx_H T u al sn se pend root := fun U G rk hr hx hg => by
  have okc : ∀ c : rf_N × (Int → Int), vx_in S c.1 → (vx_O U G T.2.2.2.2 al c ↔ vx_O U G S.2.2.2.2 al c) := fun c hc => by
    unfold vx_O vx_OK
    refine and_congr_left (fun _ => forall_congr' (fun z => ?_))
    rw [vx_fv_ar (fun j hj => hle.2.2.2 j (hc.2.1 j hj))]
  have hrS : vx_rk S rk := fun u B e m hb hm => hr u B e m (hle.2.2.1 u B e hb) hm
  have hxS : vx_ex S U := fun m B e j hb hu => by
    obtain ⟨z, h1, h2⟩ := hx m B e j (hle.2.2.1 m B e hb) hu
    exact ⟨z, (vx_fv_ar (fun j hj => hle.2.2.2 j ((hW m B e hb).2.1.2.1 j hj))).mp h1, h2⟩
  have hgS : vx_eg S u G := ⟨fun m hm hu => hop G hg m hm hu, fun m B e hb hm => hg.2 m B e (hle.2.2.1 m B e hb) hm⟩
  obtain ⟨h1, h2⟩ := h U G rk hrS hxS hgS
  refine ⟨fun m hm hq => h1 m hm (fun d hd hl => (okc d (hp d (List.mem_cons_of_mem _ hd))).mp (hq d hd hl)), fun hq => ?_⟩
  exact (okc root (hp root List.mem_cons_self)).mpr (h2 (fun d hd => (okc d (hp d (List.mem_cons_of_mem _ hd))).mp (hq d hd)))
/-- into the body of an unknown that has one -/
theorem vx_H_body {S : vx_S} {u : Int} {al : Int → Prop} {sn kp : Int → Prop} {se se' : Int → Int → Prop} {j : Nat} {m : Int} {F B : rf_N} {e em e' : Int → Int} {pend : List (rf_N × (Int → Int))} {root : rf_N × (Int → Int)} (hb : S.2.2.2.1 m = some (B, em)) (hP : ∀ z, 0 ≤ em z → e' z = ((S.2.2.2.2 j).map e).getD (em z).toNat (-1)) (hN : ∀ z, em z < 0 → ¬ al (e' z)) (hl : ∀ z, em z < ((S.2.2.2.2 j).length : Int)) (hk : ∀ (n : Nat) (z : Int), (S.2.2.2.2 j)[n]? = some z → (kp n ↔ al (e z))) (hse : ∀ i, kp i → (sn m → se m i) → se' m i) (hse' : ∀ x i, x ≠ m → se x i → se' x i) (h : vx_H S u al sn se ((rf_n j 3 m F .leaf, e) :: pend) root) : vx_H S u al (fun x => x = m ∨ sn x) se' ((B, e') :: pend) root := fun U G rk hr hx hg => by
  obtain ⟨h1, h2⟩ := h U G rk hr hx hg
  have hB : vx_OK U S.2.2.2.2 al (B, e') → ∀ i, U m i → kp i := fun ho i hu => by
    obtain ⟨z, z1, z2⟩ := hx m B em i hb hu
    have a1 := ho z z1
    have a1' : al (e' z) := a1
    have a2 : 0 ≤ em z := Int.not_lt.mp (fun c => hN z c a1')
    have a3 := hl z
    rw [hP z a2] at a1'
    have hi : (em z).toNat < (S.2.2.2.2 j).length := by omega
    rw [vx_getD_map e _ _ hi, vx_gD hi] at a1'
    have := (hk _ _ (List.getElem?_eq_getElem hi)).mpr a1'
    rw [Int.toNat_of_nonneg a2, z2] at this
    exact this
  have hC : vx_O U G S.2.2.2.2 al (B, e') → vx_O U G S.2.2.2.2 al (rf_n j 3 m F .leaf, e) := fun ho => ⟨vx_OK_call.mpr (fun i z i1 i2 => (hk i z i1).mp (hB ho.1 i i2)), fun x hx' => by
    rw [vx_mt_call hx']
    exact hg.2 m B em hb ho.2⟩
  have hbl : ∀ r, rk m ≤ r → vx_bl rk r B := fun r hr' x hx' => by
    have := hr m B em x hb hx'
    omega
  refine ⟨fun x hx' hp => ?_, fun hp => h2 (fun d hd => ?_)⟩
  · by_cases c : x = m
    · subst c
      have oB := hp (B, e') List.mem_cons_self (hbl _ (Nat.le_refl _))
      refine ⟨hg.2 x B em hb oB.2, fun i hu => hse i (hB oB.1 i hu) (fun hs => (h1 x hs (fun d hd hl' => ?_)).2 i hu)⟩
      rcases List.mem_cons.mp hd with rfl | hd
      · exact absurd (hl' x (Or.inl ⟨rfl, rfl⟩)) (Nat.lt_irrefl _)
      · exact hp d (List.mem_cons_of_mem _ hd) hl'
    · rcases hx' with hx' | hx'
      · exact absurd hx' c
      · have := h1 x hx' (fun d hd hl' => by
          rcases List.mem_cons.mp hd with rfl | hd
          · have := hl' m (Or.inl ⟨rfl, rfl⟩)
            exact hC (hp (B, e') List.mem_cons_self (hbl _ (by omega)))
          · exact hp d (List.mem_cons_of_mem _ hd) hl')
        exact ⟨this.1, fun i hu => hse' x i c (this.2 i hu)⟩
  · rcases List.mem_cons.mp hd with rfl | hd
    · exact hC (hp (B, e') List.mem_cons_self)
    · exact hp d (List.mem_cons_of_mem _ hd)
/-- an unknown that has been walked through with no more allowed -/
theorem vx_H_skip {S : vx_S} {u : Int} {al : Int → Prop} {sn : Int → Prop} {se : Int → Int → Prop} {j : Nat} {m : Int} {F : rf_N} {e : Int → Int} {pend : List (rf_N × (Int → Int))} {root : rf_N × (Int → Int)} (hs : sn m) (hk : ∀ i : Nat, se m i → ∀ z, (S.2.2.2.2 j)[i]? = some z → al (e z)) (h : vx_H S u al sn se ((rf_n j 3 m F .leaf, e) :: pend) root) : vx_H S u al sn se pend root := fun U G rk hr hx hg => by
  obtain ⟨h1, h2⟩ := h U G rk hr hx hg
  have key : (∀ c ∈ pend, vx_bl rk (rk m) c.1 → vx_O U G S.2.2.2.2 al c) → vx_O U G S.2.2.2.2 al (rf_n j 3 m F .leaf, e) := fun hp => by
    obtain ⟨a1, a2⟩ := h1 m hs (fun d hd hl' => by
      rcases List.mem_cons.mp hd with rfl | hd
      · exact absurd (hl' m (Or.inl ⟨rfl, rfl⟩)) (Nat.lt_irrefl _)
      · exact hp d hd hl')
    exact ⟨vx_OK_call.mpr (fun i z i1 i2 => hk i (a2 i i2) z i1), fun x hx' => by
      rw [vx_mt_call hx']
      exact a1⟩
  refine ⟨fun x hx' hp => h1 x hx' (fun d hd hl' => ?_), fun hp => h2 (fun d hd => ?_)⟩
  · rcases List.mem_cons.mp hd with rfl | hd
    · have hm := hl' m (Or.inl ⟨rfl, rfl⟩)
      exact key (fun d hd hl'' => hp d hd (fun y hy => by
        have := hl'' y hy
        omega))
    · exact hp d hd hl'
  · rcases List.mem_cons.mp hd with rfl | hd
    · exact key (fun d hd _ => hp d hd)
    · exact hp d hd
end
section
/-! ===== steps of solving, pure: an unknown is narrowed, an unknown is given a body ===== -/
/-- in the solutions: what is allowed of a call is allowed of the body -/
theorem vx_K_body {S : vx_S} {th : Int → rf_N} {al : Int → Prop} {j : Nat} {m : Int} {F B : rf_N} {e em e' : Int → Int} (hS : vx_So S th) (hb : S.2.2.2.1 m = some (B, em)) (hP : ∀ z, 0 ≤ em z → e' z = ((S.2.2.2.2 j).map e).getD (em z).toNat (-1)) (hl : ∀ z, em z < ((S.2.2.2.2 j).length : Int)) (h : vx_OK (vx_us th) S.2.2.2.2 al (rf_n j 3 m F .leaf, e)) : vx_OK (vx_us th) S.2.2.2.2 al (B, e') := fun z hz => by
  have h1 := vx_fv_oc hS.1 (e := em) (L := S.2.2.1 m) hz
  rw [← hS.2.2 m B em hb] at h1
  have h0 := (hS.1 m).2 _ h1
  have h2 := hl z
  have hi : (em z).toNat < (S.2.2.2.2 j).length := by omega
  have h3 := vx_OK_call.mp h (em z).toNat _ (List.getElem?_eq_getElem hi) (by
    show vx_oc (((em z).toNat : Nat) : Int) (th m)
    rw [Int.toNat_of_nonneg h0]
    exact h1)
  show al (e' z)
  rw [hP z h0, vx_getD_map e _ _ hi, vx_gD hi]
  exact h3
/-- how large the value is -/
def vx_zz (th : Int → rf_N) : rf_N → Nat
  | .leaf => 0
  | .inner _ q _ F X => (if q.1 = 3 then vx_sz (th q.2) else 1 + vx_zz th F) + vx_zz th X
theorem vx_zz_in (th : Int → rf_N) (j : Nat) (q : Int × Int) (u : Unit) (F X : rf_N) : vx_zz th (.inner j q u F X) = (if q.1 = 3 then vx_sz (th q.2) else 1 + vx_zz th F) + vx_zz th X := rfl
theorem vx_sz_sb {a X : rf_N} (h : vx_on a) : vx_sz (vx_sb a X) = vx_sz a + vx_sz X := by
  obtain ⟨k, h, F, rfl⟩ := h
  show 1 + vx_sz F + vx_sz X = 1 + vx_sz F + 0 + vx_sz X
  omega
theorem vx_sz_val {th : Int → rf_N} {AR : Nat → List Int} (hg : ∀ m, vx_on (th m)) : ∀ {A : rf_N} {e : Int → Int} {L : Int}, vx_sz (vx_val th AR A e L) = vx_zz th A
  | .leaf, _, _ => rfl
  | .inner j q u F X, e, L => by
    have hX := vx_sz_val (AR := AR) hg (A := X) (e := e) (L := L)
    rw [vx_val_in, vx_zz_in]
    by_cases h0 : q.1 = 0
    · rw [if_pos h0, if_neg (by omega)]
      show 1 + vx_sz _ + vx_sz _ = _
      rw [vx_sz_val hg, hX]
    · rw [if_neg h0]
      by_cases h3 : q.1 = 3
      · rw [if_pos h3, if_pos h3, vx_sz_sb (vx_re_on (hg _)), vx_sz_re, hX]
      · rw [if_neg h3, if_neg h3]
        show 1 + vx_sz _ + vx_sz _ = _
        rw [vx_sz_val hg, hX]
theorem vx_zz_el {th : Int → rf_N} {A : rf_N} : ∀ {F : rf_N}, A ∈ vx_el F → vx_zz th A ≤ vx_zz th F
  | .leaf, h => absurd h List.not_mem_nil
  | .inner j q u F X, h => by
    rcases List.mem_cons.mp h with rfl | h
    · rw [vx_zz_in, vx_zz_in]
      show _ + 0 ≤ _
      omega
    · have := vx_zz_el (th := th) h
      rw [vx_zz_in]
      omega
/-- the unknown x gets a new one in its place: S becomes T -/
def vx_nw (S T : vx_S) (x : Int) (j : Nat) (F : rf_N) (eu : Int → Int) (zs ks : List Int) : Prop := (T.1 = S.1 + 1 ∧ S.2.1 ≤ T.2.1 ∧ S.2.1 ≤ (j : Int) ∧ (j : Int) < T.2.1 ∧ ∀ i ∈ rf_idx F, (i : Int) < T.2.1) ∧ (S.2.2.2.1 x = none ∧ S.2.2.2.1 S.1 = none ∧ 0 ≤ x ∧ x < S.1) ∧ (∀ v, T.2.2.1 v = if v = S.1 then (ks.length : Int) else S.2.2.1 v) ∧ (∀ v, T.2.2.2.1 v = if v = x then some (rf_n j 3 S.1 F .leaf, eu) else S.2.2.2.1 v) ∧ (∀ i : Nat, (i : Int) < S.2.1 → T.2.2.2.2 i = S.2.2.2.2 i) ∧ T.2.2.2.2 j = zs ∧ zs.map eu = ks ∧ ks.Nodup ∧ (∀ k ∈ ks, 0 ≤ k ∧ k < S.2.2.1 x) ∧ ∀ z, eu z < S.2.2.1 x
theorem vx_nw_le {S T : vx_S} {x : Int} {j : Nat} {F : rf_N} {eu : Int → Int} {zs ks : List Int} (h : vx_nw S T x j F eu zs ks) : vx_le S T := by
  obtain ⟨⟨a1, a2, _⟩, ⟨b1, b2, b3, b4⟩, c, d, f, _⟩ := h
  refine ⟨⟨by omega, a2⟩, fun u h0 hu => by rw [c, if_neg (by omega)], fun u B e hb => ?_, f⟩
  rw [d, if_neg (fun q => by rw [q, b1] at hb; exact absurd hb (by simp))]
  exact hb
theorem vx_nw_W {S T : vx_S} {x : Int} {j : Nat} {F : rf_N} {eu : Int → Int} {zs ks : List Int} (h : vx_nw S T x j F eu zs ks) (hW : vx_W S) : vx_W T := fun u B e hb => by
  have hle := vx_nw_le h
  obtain ⟨⟨a1, a2, a3, a4, a5⟩, ⟨b1, b2, b3, b4⟩, c, d, f, g1, g2, g3, g4, g5⟩ := h
  rw [d] at hb
  by_cases q : u = x
  · rw [if_pos q] at hb
    obtain ⟨rfl, rfl⟩ := Prod.mk.inj (Option.some.inj hb)
    refine ⟨by omega, ⟨fun m hm => ?_, fun i hi => ?_, ⟨Or.inr ⟨rfl, ?_⟩, trivial⟩⟩, fun z => ?_⟩
    · have := vx_mt_call hm
      omega
    · rcases List.mem_cons.mp hi with rfl | hi
      · exact a4
      · rcases List.mem_append.mp hi with hi | hi
        · exact a5 i hi
        · exact absurd hi List.not_mem_nil
    · show ((T.2.2.2.2 j).length : Int) = T.2.2.1 S.1
      rw [c, if_pos rfl, g1, ← g2, List.length_map]
    · rw [c, if_neg (by omega), q]
      exact g5 z
  · rw [if_neg q] at hb
    obtain ⟨⟨w1, w2⟩, w3, w4⟩ := hW u B e hb
    exact ⟨by omega, vx_in_le hle w3, fun z => by rw [hle.2.1 u w1 w2]; exact w4 z⟩
theorem vx_nw_B1 {S T : vx_S} {x : Int} {j : Nat} {F : rf_N} {eu : Int → Int} {zs ks : List Int} (h : vx_nw S T x j F eu zs ks) (hB : vx_B1 S) : vx_B1 T := by
  obtain ⟨_, _, c, d, _⟩ := h
  refine ⟨fun u B e hb => ?_, fun u => ?_⟩
  · rw [d] at hb
    by_cases q : u = x
    · rw [if_pos q] at hb
      obtain ⟨rfl, rfl⟩ := Prod.mk.inj (Option.some.inj hb)
      exact ⟨fun z => (by cases z), rfl⟩
    · rw [if_neg q] at hb
      exact hB.1 u B e hb
  · rw [c]
    by_cases q : u = S.1
    · rw [if_pos q]
      omega
    · rw [if_neg q]
      exact hB.2 u
theorem vx_nw_rk {S T : vx_S} {x : Int} {j : Nat} {F : rf_N} {eu : Int → Int} {zs ks : List Int} {rk : Int → Nat} (h : vx_nw S T x j F eu zs ks) (hW : vx_W S) (hr : vx_rk S rk) : vx_rk T (fun v => if v = S.1 then 0 else rk v + 1) := fun u B e m hb hm => by
  obtain ⟨_, ⟨b1, b2, b3, b4⟩, c, d, _⟩ := h
  try dsimp only
  rw [d] at hb
  by_cases q : u = x
  · rw [if_pos q] at hb
    obtain ⟨rfl, rfl⟩ := Prod.mk.inj (Option.some.inj hb)
    rw [if_pos (vx_mt_call hm), if_neg (by omega)]
    omega
  · rw [if_neg q] at hb
    obtain ⟨⟨w1, w2⟩, w3, w4⟩ := hW u B e hb
    have := w3.1 m hm
    have := hr u B e m hb hm
    rw [if_neg (by omega), if_neg (by omega)]
    omega
/-- less is used -/
theorem vx_nw_U {S T : vx_S} {x : Int} {j : Nat} {F : rf_N} {eu : Int → Int} {zs ks : List Int} (h : vx_nw S T x j F eu zs ks) (hW : vx_W S) : ∀ v i, v ≠ S.1 → vx_U T v i → vx_U S v i := by
  have hle := vx_nw_le h
  obtain ⟨⟨a1, a2, a3, a4, a5⟩, ⟨b1, b2, b3, b4⟩, c, d, f, g1, g2, g3, g4, g5⟩ := h
  have key : vx_cl T (fun v i => v ≠ S.1 → vx_U S v i) := by
    refine ⟨fun v i hv i0 i1 hn => ?_, fun v B e z hb hz hn => ?_⟩
    · rw [d] at hv
      by_cases q : v = x
      · rw [if_pos q] at hv
        exact absurd hv (by simp)
      · rw [if_neg q] at hv
        rw [c, if_neg hn] at i1
        exact (vx_U_cl S).1 v i hv i0 i1
    · rw [d] at hb
      by_cases q : v = x
      · rw [if_pos q] at hb
        obtain ⟨rfl, rfl⟩ := Prod.mk.inj (Option.some.inj hb)
        rcases hz with (⟨y, _⟩ | ⟨_, i, i1, _⟩ | ⟨_, y, _⟩) | y
        · exact absurd y vx_30
        · have hm : eu z ∈ ks := by
            rw [← g2, ← g1]
            exact List.mem_map_of_mem (List.mem_of_getElem? i1)
          obtain ⟨k1, k2⟩ := g4 _ hm
          rw [q]
          exact (vx_U_cl S).1 x _ b1 k1 k2
        · exact absurd rfl y
        · exact y.elim
      · rw [if_neg q] at hb
        obtain ⟨⟨w1, w2⟩, w3, w4⟩ := hW v B e hb
        have hz' := (vx_fv_ar (fun i hi => hle.2.2.2 i (w3.2.1 i hi))).mp hz
        exact (vx_U_cl S).2 v B e z hb (vx_fv_mono' w3.2.2 (fun m i hm _ hu => hu (by have := w3.1 m hm; omega)) hz')
  exact fun v i hn hu => hu _ key hn
theorem vx_nw_Sc {S T : vx_S} {x : Int} {j : Nat} {F : rf_N} {eu : Int → Int} {zs ks : List Int} (h : vx_nw S T x j F eu zs ks) (hW : vx_W S) (hS : vx_Sc S) : vx_Sc T := fun v B e z hb hz => by
  have hle := vx_nw_le h
  have hU := vx_nw_U h hW
  obtain ⟨⟨a1, a2, a3, a4, a5⟩, ⟨b1, b2, b3, b4⟩, c, d, f, g1, g2, g3, g4, g5⟩ := h
  rw [d] at hb
  by_cases q : v = x
  · rw [if_pos q] at hb
    obtain ⟨rfl, rfl⟩ := Prod.mk.inj (Option.some.inj hb)
    rcases hz with (⟨y, _⟩ | ⟨_, i, i1, _⟩ | ⟨_, y, _⟩) | y
    · exact absurd y vx_30
    · have hm : eu z ∈ ks := by
        rw [← g2, ← g1]
        exact List.mem_map_of_mem (List.mem_of_getElem? i1)
      exact (g4 _ hm).1
    · exact absurd rfl y
    · exact y.elim
  · rw [if_neg q] at hb
    obtain ⟨⟨w1, w2⟩, w3, w4⟩ := hW v B e hb
    have hz' := (vx_fv_ar (fun i hi => hle.2.2.2 i (w3.2.1 i hi))).mp hz
    exact hS v B e z hb (vx_fv_mono' w3.2.2 (fun m i hm _ hu => hU m i (by have := w3.1 m hm; omega) hu) hz')
theorem vx_nw_So {S T : vx_S} {x : Int} {j : Nat} {F : rf_N} {eu : Int → Int} {zs ks : List Int} {th : Int → rf_N} (h : vx_nw S T x j F eu zs ks) (hW : vx_W S) (hS : vx_So S th) (hus : ∀ v, vx_oc v (th x) → v < S.2.2.1 x → v ∈ ks) : ∃ th', vx_So T th' ∧ vx_ag S.1 th th' := by
  have hle := vx_nw_le h
  obtain ⟨⟨a1, a2, a3, a4, a5⟩, ⟨b1, b2, b3, b4⟩, c, d, f, g1, g2, g3, g4, g5⟩ := h
  exact vx_nar hW hle hS ⟨b3, b4⟩ a1 (by rw [c, if_pos rfl]) d g1 g2 g3 g4 hus
/-- the unknown u gets the body B -/
def vx_gv (S T : vx_S) (u : Int) (B : rf_N) (eu : Int → Int) : Prop := (T.1 = S.1 ∧ T.2.1 = S.2.1 ∧ T.2.2.1 = S.2.2.1 ∧ T.2.2.2.2 = S.2.2.2.2) ∧ (S.2.2.2.1 u = none ∧ 0 ≤ u ∧ u < S.1) ∧ (∀ v, T.2.2.2.1 v = if v = u then some (B, eu) else S.2.2.2.1 v) ∧ (vx_in S B ∧ B ≠ .leaf ∧ vx_1 B = B) ∧ ∀ z, eu z < S.2.2.1 u
theorem vx_gv_le {S T : vx_S} {u : Int} {B : rf_N} {eu : Int → Int} (h : vx_gv S T u B eu) : vx_le S T := by
  obtain ⟨⟨a1, a2, a3, a4⟩, ⟨b1, b2, b3⟩, c, _⟩ := h
  refine ⟨⟨by omega, by omega⟩, fun v _ _ => by rw [a3], fun v B' e hb => ?_, fun j _ => by rw [a4]⟩
  rw [c, if_neg (fun q => by rw [q, b1] at hb; exact absurd hb (by simp))]
  exact hb
theorem vx_gv_W {S T : vx_S} {u : Int} {B : rf_N} {eu : Int → Int} (h : vx_gv S T u B eu) (hW : vx_W S) : vx_W T := fun v B' e hb => by
  have hle := vx_gv_le h
  obtain ⟨⟨a1, a2, a3, a4⟩, ⟨b1, b2, b3⟩, c, ⟨d1, d2, d3⟩, f⟩ := h
  rw [c] at hb
  by_cases q : v = u
  · rw [if_pos q] at hb
    obtain ⟨rfl, rfl⟩ := Prod.mk.inj (Option.some.inj hb)
    exact ⟨by omega, vx_in_le hle d1, fun z => by rw [a3, q]; exact f z⟩
  · rw [if_neg q] at hb
    obtain ⟨⟨w1, w2⟩, w3, w4⟩ := hW v B' e hb
    exact ⟨by omega, vx_in_le hle w3, fun z => by rw [a3]; exact w4 z⟩
theorem vx_gv_B1 {S T : vx_S} {u : Int} {B : rf_N} {eu : Int → Int} (h : vx_gv S T u B eu) (hB : vx_B1 S) : vx_B1 T := by
  obtain ⟨⟨a1, a2, a3, a4⟩, _, c, ⟨d1, d2, d3⟩, _⟩ := h
  refine ⟨fun v B' e hb => ?_, fun v => by rw [a3]; exact hB.2 v⟩
  rw [c] at hb
  by_cases q : v = u
  · rw [if_pos q] at hb
    obtain ⟨rfl, rfl⟩ := Prod.mk.inj (Option.some.inj hb)
    exact ⟨d2, d3⟩
  · rw [if_neg q] at hb
    exact hB.1 v B' e hb
theorem vx_gv_So {S T : vx_S} {u : Int} {B : rf_N} {eu : Int → Int} {th : Int → rf_N} (h : vx_gv S T u B eu) (hS : vx_So S th) (hu : th u = vx_val th S.2.2.2.2 B eu (S.2.2.1 u)) : vx_So T th := by
  obtain ⟨⟨a1, a2, a3, a4⟩, ⟨b1, b2, b3⟩, c, _⟩ := h
  refine ⟨hS.1, fun v v0 hv => by rw [a3]; exact hS.2.1 v v0 (by omega), fun v B' e hb => ?_⟩
  rw [c] at hb
  rw [a3, a4]
  by_cases q : v = u
  · rw [if_pos q] at hb
    obtain ⟨rfl, rfl⟩ := Prod.mk.inj (Option.some.inj hb)
    rw [q]
    exact hu
  · rw [if_neg q] at hb
    exact hS.2.2 v B' e hb
theorem vx_gv_U {S T : vx_S} {u : Int} {B : rf_N} {eu : Int → Int} (h : vx_gv S T u B eu) (hz : ∀ z, vx_fv (vx_U S) S.2.2.2.2 z B → 0 ≤ eu z) : ∀ v i, vx_U T v i → vx_U S v i := by
  obtain ⟨⟨a1, a2, a3, a4⟩, ⟨b1, b2, b3⟩, c, ⟨d1, d2, d3⟩, f⟩ := h
  have key : vx_cl T (vx_U S) := by
    refine ⟨fun v i hv i0 i1 => ?_, fun v B' e z hb hz' => ?_⟩
    · rw [c] at hv
      by_cases q : v = u
      · rw [if_pos q] at hv
        exact absurd hv (by simp)
      · rw [if_neg q] at hv
        rw [a3] at i1
        exact (vx_U_cl S).1 v i hv i0 i1
    · rw [c] at hb
      rw [a4] at hz'
      by_cases q : v = u
      · rw [if_pos q] at hb
        obtain ⟨rfl, rfl⟩ := Prod.mk.inj (Option.some.inj hb)
        rw [q]
        exact (vx_U_cl S).1 u _ b1 (hz z hz') (f z)
      · rw [if_neg q] at hb
        exact (vx_U_cl S).2 v B' e z hb hz'
  exact fun v i hu => hu _ key
theorem vx_gv_Sc {S T : vx_S} {u : Int} {B : rf_N} {eu : Int → Int} (h : vx_gv S T u B eu) (hz : ∀ z, vx_fv (vx_U S) S.2.2.2.2 z B → 0 ≤ eu z) (hS : vx_Sc S) : vx_Sc T := fun v B' e z hb hz' => by
  have hU := vx_gv_U h hz
  obtain ⟨⟨a1, a2, a3, a4⟩, ⟨b1, b2, b3⟩, c, ⟨d1, d2, d3⟩, f⟩ := h
  rw [a4] at hz'
  have hz2 := vx_fv_mono hU hz'
  rw [c] at hb
  by_cases q : v = u
  · rw [if_pos q] at hb
    obtain ⟨rfl, rfl⟩ := Prod.mk.inj (Option.some.inj hb)
    exact hz z hz2
  · rw [if_neg q] at hb
    exact hS v B' e z hb hz2
/-- from unknown to unknown -/
def vx_E (S : vx_S) (a b : Int) : Prop := ∃ B e, S.2.2.2.1 a = some (B, e) ∧ vx_mt b B
theorem vx_rc_head {E : Int → Int → Prop} {a c : Int} (h : rf_rc E a c) : E a c ∨ ∃ b, E a b ∧ rf_rc E b c := by
  induction h with
  | single q => exact Or.inl q
  | tail _ q ih =>
    rcases ih with ih | ⟨b, i1, i2⟩
    · exact Or.inr ⟨_, ih, .single q⟩
    · exact Or.inr ⟨b, i1, .tail i2 q⟩
theorem vx_eg_E (S : vx_S) (u : Int) (hu : S.2.2.2.1 u = none) : vx_eg S u (fun m => m ≠ u ∧ ¬ rf_rc (vx_E S) m u) := by
  refine ⟨fun m hm hu => ⟨hu, fun h => rf_rc_out (fun b ⟨B, e, hb, _⟩ => by rw [hm] at hb; exact absurd hb (by simp)) h⟩, fun m B e hb hm => ⟨fun q => ?_, fun h => ?_⟩⟩
  · rw [q, hu] at hb
    exact absurd hb (by simp)
  · rcases vx_rc_head h with ⟨B', e', h1, h2⟩ | ⟨b, ⟨B', e', h1, h2⟩, h3⟩
    · rw [hb] at h1
      obtain ⟨rfl, rfl⟩ := Prod.mk.inj (Option.some.inj h1)
      exact (hm u h2).1 rfl
    · rw [hb] at h1
      obtain ⟨rfl, rfl⟩ := Prod.mk.inj (Option.some.inj h1)
      exact (hm b h2).2 h3
theorem vx_max (rk : Int → Nat) : ∀ A : rf_N, ∃ M, ∀ m, vx_mt m A → rk m < M
  | .leaf => ⟨0, fun _ h => h.elim⟩
  | .inner j q u F X => by
    obtain ⟨M1, h1⟩ := vx_max rk F
    obtain ⟨M2, h2⟩ := vx_max rk X
    refine ⟨rk q.2 + 1 + M1 + M2, fun m hm => ?_⟩
    rcases hm with ⟨_, h⟩ | ⟨_, h⟩ | h
    · rw [← h]
      omega
    · have := h1 m h
      omega
    · have := h2 m h
      omega
theorem vx_gv_rk {S T : vx_S} {u : Int} {B : rf_N} {eu : Int → Int} {rk : Int → Nat} (h : vx_gv S T u B eu) (hr : vx_rk S rk) (hn : ∀ m, vx_mt m B → m ≠ u ∧ ¬ rf_rc (vx_E S) m u) : ∃ rk', vx_rk T rk' := by
  obtain ⟨M, hM⟩ := vx_max rk B
  obtain ⟨_, ⟨b1, b2, b3⟩, c, _⟩ := h
  refine ⟨fun v => rk v + @ite Nat (v = u ∨ rf_rc (vx_E S) v u) (Classical.propDecidable _) M 0, fun v B' e m hb hm => ?_⟩
  rw [c] at hb
  try dsimp only
  by_cases q : v = u
  · rw [if_pos q] at hb
    obtain ⟨rfl, rfl⟩ := Prod.mk.inj (Option.some.inj hb)
    obtain ⟨n1, n2⟩ := hn m hm
    rw [if_neg (fun z => z.elim n1 n2), if_pos (Or.inl q)]
    have := hM m hm
    omega
  · rw [if_neg q] at hb
    have h1 := hr v B' e m hb hm
    by_cases w : m = u ∨ rf_rc (vx_E S) m u
    · have hv : rf_rc (vx_E S) v u := by
        rcases w with w | w
        · exact .single ⟨B', e, hb, w ▸ hm⟩
        · exact rf_rc_trans (.single ⟨B', e, hb, hm⟩) w
      rw [if_pos w, if_pos (Or.inr hv)]
      omega
    · rw [if_neg w]
      by_cases w' : v = u ∨ rf_rc (vx_E S) v u
      · rw [if_pos w']
        omega
      · rw [if_neg w']
        omega
end
section
/-! ===== when two values are the same: taken apart ===== -/
theorem vx_val_1 {th : Int → rf_N} {AR : Nat → List Int} (hg : ∀ m, vx_on (th m)) (j : Nat) (q : Int × Int) (u : Unit) (F X : rf_N) (e : Int → Int) (L : Int) : vx_val th AR (.inner j q u F X) e L = vx_sb (vx_val th AR (.inner j q u F .leaf) e L) (vx_val th AR X e L) := by
  have e0 : vx_val th AR .leaf e L = .leaf := rfl
  rw [vx_val_in, vx_val_in, e0]
  by_cases h0 : q.1 = 0
  · rw [if_pos h0, if_pos h0]
    rfl
  · rw [if_neg h0, if_neg h0]
    by_cases h3 : q.1 = 3
    · rw [if_pos h3, if_pos h3, vx_sb_leaf (vx_re_on (hg _))]
    · rw [if_neg h3, if_neg h3]
      rfl
theorem vx_val_one {th : Int → rf_N} {AR : Nat → List Int} (hg : ∀ m, vx_on (th m)) (j : Nat) (q : Int × Int) (u : Unit) (F : rf_N) (e : Int → Int) (L : Int) : vx_on (vx_val th AR (.inner j q u F .leaf) e L) := vx_val_on hg (A := .inner j q u F .leaf) (fun z => by cases z)
/-- two \ -/
theorem vx_eq_lam {th : Int → rf_N} {AR : Nat → List Int} {j j' : Nat} {x y L : Int} {F F' : rf_N} {e d : Int → Int} : vx_val th AR (rf_n j 0 x F .leaf) e L = vx_val th AR (rf_n j' 0 y F' .leaf) d L ↔ vx_val th AR F (vx_up e x L) (L + 1) = vx_val th AR F' (vx_up d y L) (L + 1) := by
  rw [vx_val_in, vx_val_in, if_pos rfl, if_pos rfl]
  constructor
  · intro h
    exact (vx_n_eq h).2.2.1
  · intro h
    rw [h]
    rfl
/-- two heads with ARGs -/
theorem vx_eq_rig {th : Int → rf_N} {AR : Nat → List Int} {j j' : Nat} {k h k' h' L : Int} {F F' : rf_N} {e d : Int → Int} (h0 : k ≠ 0) (h3 : k ≠ 3) (h0' : k' ≠ 0) (h3' : k' ≠ 3) : vx_val th AR (rf_n j k h F .leaf) e L = vx_val th AR (rf_n j' k' h' F' .leaf) d L ↔ k = k' ∧ (if k = 2 then e h else h) = (if k' = 2 then d h' else h') ∧ vx_val th AR F e L = vx_val th AR F' d L := by
  rw [vx_val_in, vx_val_in, if_neg h0, if_neg h3, if_neg h0', if_neg h3']
  constructor
  · intro z
    obtain ⟨z1, z2, z3, _⟩ := vx_n_eq z
    exact ⟨z1, z2, z3⟩
  · rintro ⟨z1, z2, z3⟩
    have z2' : (if (k, h).1 = 2 then e (k, h).2 else (k, h).2) = (if (k', h').1 = 2 then d (k', h').2 else (k', h').2) := z2
    rw [z2', z3]
    show rf_n 0 k _ _ _ = rf_n 0 k' _ _ _
    rw [z1]
    rfl
/-- rows: one by one -/
theorem vx_eq_row {th : Int → rf_N} {AR : Nat → List Int} (hg : ∀ m, vx_on (th m)) {e d : Int → Int} {L : Int} : ∀ {F F' : rf_N}, vx_val th AR F e L = vx_val th AR F' d L ↔ (vx_el F).length = (vx_el F').length ∧ ∀ (i : Nat) A B, (vx_el F)[i]? = some A → (vx_el F')[i]? = some B → vx_val th AR A e L = vx_val th AR B d L
  | .leaf, .leaf => ⟨fun _ => ⟨rfl, fun i A B h => by simp [vx_el] at h⟩, fun _ => rfl⟩
  | .leaf, .inner j q u F X => by
    constructor
    · intro h
      rw [vx_val_1 hg] at h
      obtain ⟨k, hh, F', e'⟩ := vx_val_one hg (AR := AR) j q u F d L
      rw [e'] at h
      cases h
    · intro h
      have : 0 = (vx_el X).length + 1 := h.1
      omega
  | .inner j q u F X, .leaf => by
    constructor
    · intro h
      rw [vx_val_1 hg] at h
      obtain ⟨k, hh, F', e'⟩ := vx_val_one hg (AR := AR) j q u F e L
      rw [e'] at h
      cases h
    · intro h
      have : (vx_el X).length + 1 = 0 := h.1
      omega
  | .inner j q u F X, .inner j' q' u' F' X' => by
    have ih := vx_eq_row hg (AR := AR) (e := e) (d := d) (L := L) (F := X) (F' := X')
    have l1 : vx_el (.inner j q u F X) = .inner j q () F .leaf :: vx_el X := rfl
    have l2 : vx_el (.inner j' q' u' F' X') = .inner j' q' () F' .leaf :: vx_el X' := rfl
    rw [vx_val_1 hg j q, vx_val_1 hg j' q', l1, l2]
    constructor
    · intro h
      obtain ⟨h1, h2⟩ := vx_sb_on (vx_val_one hg j q u F e L) (vx_val_one hg j' q' u' F' d L) h
      obtain ⟨h3, h4⟩ := ih.mp h2
      refine ⟨by rw [List.length_cons, List.length_cons, h3], fun i A B hA hB => ?_⟩
      cases i with
      | zero =>
        rw [List.getElem?_cons_zero] at hA hB
        rw [← Option.some.inj hA, ← Option.some.inj hB]
        exact h1
      | succ i =>
        rw [List.getElem?_cons_succ] at hA hB
        exact h4 i A B hA hB
    · rintro ⟨h1, h2⟩
      rw [List.length_cons, List.length_cons] at h1
      have a1 := h2 0 _ _ (List.getElem?_cons_zero) (List.getElem?_cons_zero)
      have a2 := ih.mpr ⟨by omega, fun i A B hA hB => h2 (i + 1) A B (by rw [List.getElem?_cons_succ]; exact hA) (by rw [List.getElem?_cons_succ]; exact hB)⟩
      have a1' : vx_val th AR (.inner j q u F .leaf) e L = vx_val th AR (.inner j' q' u' F' .leaf) d L := a1
      rw [a1', a2]
/-- a call: what comes of it -/
theorem vx_call {th : Int → rf_N} {AR : Nat → List Int} (hg : ∀ m, vx_on (th m)) {j : Nat} {m L : Int} {F : rf_N} {e : Int → Int} : vx_val th AR (rf_n j 3 m F .leaf) e L = vx_re (vx_ix ((AR j).map e) L) (th m) := by
  have e0 : vx_val th AR .leaf e L = .leaf := rfl
  rw [vx_val_in, if_neg vx_30, if_pos rfl, e0, vx_sb_leaf (vx_re_on (hg _))]
/-- into the body of an unknown -/
theorem vx_call_body {S : vx_S} {th : Int → rf_N} (hS : vx_So S th) {j : Nat} {m L : Int} {F B : rf_N} {e em e' : Int → Int} (hb : S.2.2.2.1 m = some (B, em)) (ha : ((S.2.2.2.2 j).length : Int) = S.2.2.1 m) (hlt : ∀ z, em z < S.2.2.1 m) (hP : ∀ z, 0 ≤ em z → e' z = ((S.2.2.2.2 j).map e).getD (em z).toNat (-1)) : vx_val th S.2.2.2.2 (rf_n j 3 m F .leaf) e L = vx_val th S.2.2.2.2 B e' L := by
  rw [vx_call (fun m => (hS.1 m).1)]
  have hl : (((S.2.2.2.2 j).map e).length : Int) = S.2.2.1 m := by rw [List.length_map, ha]
  exact vx_enter hS.1 (by rw [hl]; exact hS.2.2 m B em hb) (fun z => by rw [hl]; exact hlt z) hP
/-- what stands strictly inside is smaller: an unknown that must be what it stands in is none -/
theorem vx_zz_lt {th : Int → rf_N} {j : Nat} {k h : Int} {F A : rf_N} (h3 : k ≠ 3) (hA : A ∈ vx_el F) : vx_zz th A < vx_zz th (rf_n j k h F .leaf) := by
  have := vx_zz_el (th := th) hA
  rw [vx_zz_in, if_neg h3]
  omega
theorem vx_zz_lam {th : Int → rf_N} {j : Nat} {x : Int} {F : rf_N} : vx_zz th F < vx_zz th (rf_n j 0 x F .leaf) := by
  rw [vx_zz_in, if_neg vx_03]
  omega
theorem vx_zz_call {th : Int → rf_N} {j : Nat} {m : Int} {F : rf_N} : vx_zz th (rf_n j 3 m F .leaf) = vx_sz (th m) := by
  rw [vx_zz_in, if_pos rfl]
  rfl
theorem vx_zz_body {S : vx_S} {th : Int → rf_N} (hS : vx_So S th) {m : Int} {B : rf_N} {em : Int → Int} (hb : S.2.2.2.1 m = some (B, em)) : vx_sz (th m) = vx_zz th B := by
  rw [hS.2.2 m B em hb, vx_sz_val (fun m => (hS.1 m).1)]
end
section
/-! ===== solving all equations: what holds on the way; pend: pairs that must become the same ===== -/
abbrev vx_P : Type := (rf_N × (Int → Int)) × (rf_N × (Int → Int)) × Int
def vx_pe (th : Int → rf_N) (AR : Nat → List Int) (p : vx_P) : Prop := vx_val th AR p.1.1 p.1.2 p.2.2 = vx_val th AR p.2.1.1 p.2.1.2 p.2.2
/-- Q: the equations hold (said of the first n0 unknowns alone) -/
def vx_J (S : vx_S) (n0 : Int) (Q : (Int → rf_N) → Prop) (pend : List vx_P) : Prop := (∀ th, vx_So S th → (∀ p ∈ pend, vx_pe th S.2.2.2.2 p) → Q th) ∧ (∀ th, vx_So S th → Q th → ∀ p ∈ pend, vx_pe th S.2.2.2.2 p) ∧ (n0 ≤ S.1 ∧ ∀ th0, vx_gd th0 → (∀ u, 0 ≤ u → u < n0 → vx_sc (th0 u) (S.2.2.1 u)) → Q th0 → ∃ th, vx_So S th ∧ vx_ag n0 th0 th)
/-- a pair gives way to others that say the same -/
theorem vx_J_rep {S : vx_S} {n0 : Int} {Q : (Int → rf_N) → Prop} {p : vx_P} {ps pend : List vx_P} (h : vx_J S n0 Q (p :: pend)) (hp : ∀ th, vx_So S th → (vx_pe th S.2.2.2.2 p ↔ ∀ q ∈ ps, vx_pe th S.2.2.2.2 q)) : vx_J S n0 Q (ps ++ pend) := by
  obtain ⟨h1, h2, h3⟩ := h
  refine ⟨fun th hS hq => h1 th hS (fun r hr => ?_), fun th hS hQ r hr => ?_, h3⟩
  · rcases List.mem_cons.mp hr with rfl | hr
    · exact (hp th hS).mpr (fun q hq' => hq q (List.mem_append_left _ hq'))
    · exact hq r (List.mem_append_right _ hr)
  · rcases List.mem_append.mp hr with hr | hr
    · exact (hp th hS).mp (h2 th hS hQ p List.mem_cons_self) r hr
    · exact h2 th hS hQ r (List.mem_cons_of_mem _ hr)
/-- nothing solves it: no solution at all -/
theorem vx_J_no {S : vx_S} {n0 : Int} {Q : (Int → rf_N) → Prop} {p : vx_P} {pend : List vx_P} (h : vx_J S n0 Q (p :: pend)) (hQ : ∀ th th', vx_ag n0 th th' → Q th → Q th') (hp : ∀ th, vx_So S th → ¬ vx_pe th S.2.2.2.2 p) : ∀ th0, vx_gd th0 → (∀ u, 0 ≤ u → u < n0 → vx_sc (th0 u) (S.2.2.1 u)) → ¬ Q th0 := fun th0 g0 s0 q0 => by
  obtain ⟨h1, h2, _, h3⟩ := h
  obtain ⟨th, hS, ha⟩ := h3 th0 g0 s0 q0
  exact hp th hS (h2 th hS (hQ _ _ ha q0) p List.mem_cons_self)
/-- more is known: S becomes T, and the first pair is done with -/
theorem vx_J_le {S T : vx_S} {n0 : Int} {Q : (Int → rf_N) → Prop} {p : vx_P} {pend : List vx_P} (h : vx_J S n0 Q (p :: pend)) (hW : vx_W S) (hle : vx_le S T) (hQ : ∀ th th', vx_ag n0 th th' → Q th → Q th') (hin : ∀ q ∈ p :: pend, vx_in S q.1.1 ∧ vx_in S q.2.1.1) (hp : ∀ th, vx_So T th → vx_pe th T.2.2.2.2 p) (hE : ∀ th, vx_So S th → Q th → vx_pe th S.2.2.2.2 p → ∃ th', vx_So T th' ∧ vx_ag S.1 th th') : vx_J T n0 Q pend := by
  obtain ⟨h1, h2, h3, h4⟩ := h
  have eq : ∀ th q, q ∈ p :: pend → (vx_pe th T.2.2.2.2 q ↔ vx_pe th S.2.2.2.2 q) := fun th q hq => by
    unfold vx_pe
    rw [vx_val_le hle (hin q hq).1, vx_val_le hle (hin q hq).2]
  refine ⟨fun th hT hq => h1 th (vx_So_le hW hle hT) (fun r hr => ?_), fun th hT hQ' r hr => ?_, by have := hle.1.1; omega, fun th0 g0 s0 q0 => ?_⟩
  · rcases List.mem_cons.mp hr with rfl | hr'
    · exact (eq th r hr).mp (hp th hT)
    · exact (eq th r hr).mp (hq r hr')
  · exact (eq th r (List.mem_cons_of_mem _ hr)).mpr (h2 th (vx_So_le hW hle hT) hQ' r (List.mem_cons_of_mem _ hr))
  · obtain ⟨th, hS, ha⟩ := h4 th0 g0 (fun u u0 hu => by rw [← hle.2.1 u u0 (by omega)]; exact s0 u u0 hu) q0
    have hq := hQ _ _ ha q0
    obtain ⟨th', hT, ha'⟩ := hE th hS hq (h2 th hS hq p List.mem_cons_self)
    exact ⟨th', hT, fun u u0 hu => (ha' u u0 (by omega)).trans (ha u u0 hu)⟩
/-- the open unknown u before the variables xs is the other side, B: what it is given, and that this is all -/
theorem vx_J_give {S T : vx_S} {n0 L u : Int} {Q : (Int → rf_N) → Prop} {j : Nat} {F B : rf_N} {e d eu : Int → Int} {pend : List vx_P} (h : vx_J S n0 Q (((rf_n j 3 u F .leaf, e), (B, d), L) :: pend)) (hW : vx_W S) (hg : vx_gv S T u B eu) (hQ : ∀ th th', vx_ag n0 th th' → Q th → Q th') (hin : ∀ q ∈ ((rf_n j 3 u F .leaf, e), (B, d), L) :: pend, vx_in S q.1.1 ∧ vx_in S q.2.1.1) (hn : ((S.2.2.2.2 j).map e).Nodup) (hx : ∀ x ∈ (S.2.2.2.2 j).map e, x < L) (hd : ∀ z, d z < L) (hP : ∀ z (i : Nat), ((S.2.2.2.2 j).map e)[i]? = some (d z) → eu z = (i : Int)) (hP' : ∀ z, 0 ≤ eu z → d z = ((S.2.2.2.2 j).map e).getD (eu z).toNat (-1)) : vx_J T n0 Q pend := by
  have hle := vx_gv_le hg
  have hlen : ((S.2.2.2.2 j).length : Int) = S.2.2.1 u := by
    rcases (hin _ List.mem_cons_self).1.2.2.1 with ⟨z, _⟩ | ⟨_, z⟩
    · have z' : (3 : Int) = 0 ∨ (3 : Int) = 1 ∨ (3 : Int) = 2 := z
      omega
    · exact z
  have hl2 : (((S.2.2.2.2 j).map e).length : Int) = S.2.2.1 u := by rw [List.length_map, hlen]
  refine vx_J_le h hW hle hQ hin (fun th hT => ?_) (fun th hS hq hp => ⟨th, vx_gv_So hg hS ?_, fun _ _ _ => rfl⟩)
  · have hS := vx_So_le hW hle hT
    obtain ⟨⟨a1, a2, a3, a4⟩, ⟨b1, b2, b3⟩, c, _, f⟩ := hg
    have hb : T.2.2.2.1 u = some (B, eu) := by rw [c, if_pos rfl]
    exact vx_call_body hT (F := F) hb (by rw [a4, a3]; exact hlen) (fun z => by rw [a3]; exact f z) (fun z hz => by rw [a4]; exact hP' z hz)
  · have hp' : vx_val th S.2.2.2.2 (rf_n j 3 u F .leaf) e L = vx_val th S.2.2.2.2 B d L := hp
    rw [vx_call (fun m => (hS.1 m).1)] at hp'
    have su := hS.2.1 u hg.2.1.2.1 hg.2.1.2.2
    rw [← hl2] at su
    have := vx_bind hS.1 su hn hx hd hP hp'
    rw [hl2] at this
    exact this
end
section
/-! ===== narrowing while a pair is being looked at; what an open unknown twice is ===== -/
/-- more is known, the pair stays -/
theorem vx_J_nw {S T : vx_S} {n0 : Int} {Q : (Int → rf_N) → Prop} {p : vx_P} {pend : List vx_P} (h : vx_J S n0 Q (p :: pend)) (hW : vx_W S) (hle : vx_le S T) (hQ : ∀ th th', vx_ag n0 th th' → Q th → Q th') (hin : ∀ q ∈ p :: pend, vx_in S q.1.1 ∧ vx_in S q.2.1.1) (hE : ∀ th, vx_So S th → Q th → vx_pe th S.2.2.2.2 p → ∃ th', vx_So T th' ∧ vx_ag S.1 th th') : vx_J T n0 Q (p :: pend) := by
  obtain ⟨h1, h2, h3, h4⟩ := h
  have eq : ∀ th q, q ∈ p :: pend → (vx_pe th T.2.2.2.2 q ↔ vx_pe th S.2.2.2.2 q) := fun th q hq => by
    unfold vx_pe
    rw [vx_val_le hle (hin q hq).1, vx_val_le hle (hin q hq).2]
  refine ⟨fun th hT hq => h1 th (vx_So_le hW hle hT) (fun r hr => (eq th r hr).mp (hq r hr)), fun th hT hQ' r hr => (eq th r hr).mpr (h2 th (vx_So_le hW hle hT) hQ' r hr), by have := hle.1.1; omega, fun th0 g0 s0 q0 => ?_⟩
  obtain ⟨th, hS, ha⟩ := h4 th0 g0 (fun u u0 hu => by rw [← hle.2.1 u u0 (by omega)]; exact s0 u u0 hu) q0
  have hq := hQ _ _ ha q0
  obtain ⟨th', hT, ha'⟩ := hE th hS hq (h2 th hS hq p List.mem_cons_self)
  exact ⟨th', hT, fun u u0 hu => (ha' u u0 (by omega)).trans (ha u u0 hu)⟩
/-- after a narrowing only the kept ARGs are used -/
theorem vx_nw_us {S T : vx_S} {x : Int} {j : Nat} {F : rf_N} {eu : Int → Int} {zs ks : List Int} {th : Int → rf_N} (h : vx_nw S T x j F eu zs ks) (hT : vx_So T th) : ∀ v, vx_oc v (th x) → v < S.2.2.1 x → v ∈ ks := fun v hv hl => by
  obtain ⟨⟨a1, a2, a3, a4, a5⟩, ⟨b1, b2, b3, b4⟩, c, d, f, g1, g2, g3, g4, g5⟩ := h
  have hb : T.2.2.2.1 x = some (rf_n j 3 S.1 F .leaf, eu) := by rw [d, if_pos rfl]
  have e1 := hT.2.2 x _ _ hb
  have ax : T.2.2.1 x = S.2.2.1 x := by rw [c, if_neg (by omega)]
  rw [e1] at hv
  rcases vx_oc_fv hT.1 hv with ⟨z, z1, z2⟩ | z
  · rcases z1 with (⟨y, _⟩ | ⟨_, i, i1, _⟩ | ⟨_, y, _⟩) | y
    · exact absurd y vx_30
    · rw [← z2, ← g2, ← g1]
      exact List.mem_map_of_mem (List.mem_of_getElem? i1)
    · exact absurd rfl y
    · exact y.elim
  · rw [ax] at z
    omega
/-- an open unknown before two rows: it has those ARGs alone in which they agree -/
theorem vx_J_meet {S T : vx_S} {n0 L u : Int} {Q : (Int → rf_N) → Prop} {j j' jn : Nat} {F F' Fn : rf_N} {e d eu : Int → Int} {zs ks : List Int} {pend : List vx_P} (h : vx_J S n0 Q (((rf_n j 3 u F .leaf, e), (rf_n j' 3 u F' .leaf, d), L) :: pend)) (hW : vx_W S) (hn : vx_nw S T u jn Fn eu zs ks) (hQ : ∀ th th', vx_ag n0 th th' → Q th → Q th') (hin : ∀ q ∈ ((rf_n j 3 u F .leaf, e), (rf_n j' 3 u F' .leaf, d), L) :: pend, vx_in S q.1.1 ∧ vx_in S q.2.1.1) (hk : ∀ i : Nat, (i : Int) < S.2.2.1 u → ((i : Int) ∈ ks ↔ ((S.2.2.2.2 j).map e)[i]? = ((S.2.2.2.2 j').map d)[i]?)) : vx_J T n0 Q pend := by
  have hle := vx_nw_le hn
  have len : ∀ (j : Nat) (F : rf_N), vx_in S (rf_n j 3 u F .leaf) → ((S.2.2.2.2 j).length : Int) = S.2.2.1 u := fun j F hi => by
    rcases hi.2.2.1 with ⟨z, _⟩ | ⟨_, z⟩
    · have z' : (3 : Int) = 0 ∨ (3 : Int) = 1 ∨ (3 : Int) = 2 := z
      omega
    · exact z
  have hi := hin _ List.mem_cons_self
  have l1 := len j F hi.1
  have l2 := len j' F' hi.2
  have hl : ((S.2.2.2.2 j).map e).length = ((S.2.2.2.2 j').map d).length := by
    rw [List.length_map, List.length_map]
    omega
  have ej : T.2.2.2.2 j = S.2.2.2.2 j := hle.2.2.2 j (hi.1.2.1 j List.mem_cons_self)
  have ej' : T.2.2.2.2 j' = S.2.2.2.2 j' := hle.2.2.2 j' (hi.2.2.1 j' List.mem_cons_self)
  refine vx_J_le h hW hle hQ hin (fun th hT => ?_) (fun th hS hq hp => vx_nw_So hn hW hS (fun v hv hl' => ?_))
  · show vx_val th T.2.2.2.2 (rf_n j 3 u F .leaf) e L = vx_val th T.2.2.2.2 (rf_n j' 3 u F' .leaf) d L
    rw [vx_call (fun m => (hT.1 m).1), vx_call (fun m => (hT.1 m).1), ej, ej']
    refine (vx_same hT.1 hl).mpr (fun i hi' ho => ?_)
    rw [List.length_map] at hi'
    exact (hk i (by omega)).mp (vx_nw_us hn hT i ho (by omega))
  · have hp' : vx_val th S.2.2.2.2 (rf_n j 3 u F .leaf) e L = vx_val th S.2.2.2.2 (rf_n j' 3 u F' .leaf) d L := hp
    rw [vx_call (fun m => (hS.1 m).1), vx_call (fun m => (hS.1 m).1)] at hp'
    have v0 := (hS.1 u).2 v hv
    have := (vx_same hS.1 hl).mp hp' v.toNat (by rw [List.length_map]; omega) (by rw [Int.toNat_of_nonneg v0]; exact hv)
    have := (hk v.toNat (by omega)).mpr this
    rw [Int.toNat_of_nonneg v0] at this
    exact this
/-- both calls have the same ARGs: nothing is to be done -/
theorem vx_J_same {S : vx_S} {n0 L u : Int} {Q : (Int → rf_N) → Prop} {j j' : Nat} {F F' : rf_N} {e d : Int → Int} {pend : List vx_P} (h : vx_J S n0 Q (((rf_n j 3 u F .leaf, e), (rf_n j' 3 u F' .leaf, d), L) :: pend)) (hk : (S.2.2.2.2 j).map e = (S.2.2.2.2 j').map d) : vx_J S n0 Q pend := by
  have := vx_J_rep (ps := []) h (fun th hS => ⟨fun _ _ hq => absurd hq List.not_mem_nil, fun _ => ?_⟩)
  · exact this
  · show vx_val th S.2.2.2.2 (rf_n j 3 u F .leaf) e L = vx_val th S.2.2.2.2 (rf_n j' 3 u F' .leaf) d L
    rw [vx_call (fun m => (hS.1 m).1), vx_call (fun m => (hS.1 m).1), hk]
/-! ===== the walk through the other side, with what every solution asks ===== -/
/-- every solution of the pair p: what is still to be walked through may have only what is allowed, and is smaller than the root -/
def vx_Kn (S : vx_S) (al : Int → Prop) (p : vx_P) (root : rf_N × (Int → Int)) (pend : List (rf_N × (Int → Int))) : Prop := ∀ th, vx_So S th → vx_pe th S.2.2.2.2 p → ∀ c ∈ pend, vx_OK (vx_us th) S.2.2.2.2 al c ∧ (c.1 = root.1 ∨ vx_zz th c.1 < vx_zz th root.1)
/-- the root is what the unknown must be -/
theorem vx_Kn_0 {S : vx_S} {al : Int → Prop} {L u : Int} {j : Nat} {F B : rf_N} {e d : Int → Int} (hx : ∀ x ∈ (S.2.2.2.2 j).map e, al x) (hL : ∀ x, L ≤ x → al x) : vx_Kn S al ((rf_n j 3 u F .leaf, e), (B, d), L) (B, d) [(B, d)] := fun th hS hp c hc => by
  rw [List.mem_singleton.mp hc]
  refine ⟨fun z hz => ?_, Or.inl rfl⟩
  have hp' : vx_val th S.2.2.2.2 (rf_n j 3 u F .leaf) e L = vx_val th S.2.2.2.2 B d L := hp
  have h1 := vx_fv_oc hS.1 (e := d) (L := L) hz
  rw [← hp', vx_call (fun m => (hS.1 m).1)] at h1
  obtain ⟨v, v1, v2⟩ := vx_oc_re.mp h1
  have v0 := (hS.1 u).2 v v1
  show al (d z)
  rw [← v2]
  unfold vx_ix
  by_cases hl : v < (((S.2.2.2.2 j).map e).length : Int)
  · rw [if_pos hl]
    have hi : v.toNat < ((S.2.2.2.2 j).map e).length := by omega
    rw [vx_gD hi]
    exact hx _ (List.getElem_mem hi)
  · rw [if_neg hl]
    exact hL _ (by omega)
theorem vx_Kn_lam {S : vx_S} {al : Int → Prop} {p : vx_P} {root : rf_N × (Int → Int)} {pend : List (rf_N × (Int → Int))} {j : Nat} {x L : Int} {F : rf_N} {e : Int → Int} (hL : al L) (h : vx_Kn S al p root ((rf_n j 0 x F .leaf, e) :: pend)) : vx_Kn S al p root ((F, vx_up e x L) :: pend) := fun th hS hp c hc => by
  rcases List.mem_cons.mp hc with rfl | hc
  · obtain ⟨h1, h2⟩ := h th hS hp _ List.mem_cons_self
    refine ⟨(vx_OK_lam hL).mp h1, Or.inr ?_⟩
    have h3 := vx_zz_lam (th := th) (j := j) (x := x) (F := F)
    rcases h2 with h2 | h2
    · rw [← h2]
      exact h3
    · exact Nat.lt_trans h3 h2
  · exact h th hS hp c (List.mem_cons_of_mem _ hc)
theorem vx_Kn_rig {S : vx_S} {al : Int → Prop} {p : vx_P} {root : rf_N × (Int → Int)} {pend : List (rf_N × (Int → Int))} {j : Nat} {k h : Int} {F : rf_N} {e : Int → Int} (h0 : k ≠ 0) (h3 : k ≠ 3) (hh : vx_Kn S al p root ((rf_n j k h F .leaf, e) :: pend)) : vx_Kn S al p root ((vx_el F).map (fun A => (A, e)) ++ pend) := fun th hS hp c hc => by
  rcases List.mem_append.mp hc with hc | hc
  · obtain ⟨A, hA, rfl⟩ := List.mem_map.mp hc
    obtain ⟨h1, h2⟩ := hh th hS hp _ List.mem_cons_self
    refine ⟨((vx_OK_rig h0 h3).mp h1).2 A hA, Or.inr ?_⟩
    have h4 := vx_zz_lt (th := th) (j := j) (h := h) h3 hA
    rcases h2 with h2 | h2
    · rw [← h2]
      exact h4
    · exact Nat.lt_trans h4 h2
  · exact hh th hS hp c (List.mem_cons_of_mem _ hc)
theorem vx_Kn_drop {S : vx_S} {al : Int → Prop} {p : vx_P} {root c : rf_N × (Int → Int)} {pend : List (rf_N × (Int → Int))} (h : vx_Kn S al p root (c :: pend)) : vx_Kn S al p root pend := fun th hS hp d hd => h th hS hp d (List.mem_cons_of_mem _ hd)
theorem vx_Kn_body {S : vx_S} {al : Int → Prop} {p : vx_P} {root : rf_N × (Int → Int)} {pend : List (rf_N × (Int → Int))} {j : Nat} {m : Int} {F B : rf_N} {e em e' : Int → Int} (hr : root.1 ≠ rf_n j 3 m F .leaf) (hb : S.2.2.2.1 m = some (B, em)) (hP : ∀ z, 0 ≤ em z → e' z = ((S.2.2.2.2 j).map e).getD (em z).toNat (-1)) (hl : ∀ z, em z < ((S.2.2.2.2 j).length : Int)) (h : vx_Kn S al p root ((rf_n j 3 m F .leaf, e) :: pend)) : vx_Kn S al p root ((B, e') :: pend) := fun th hS hp c hc => by
  rcases List.mem_cons.mp hc with rfl | hc
  · obtain ⟨h1, h2⟩ := h th hS hp _ List.mem_cons_self
    refine ⟨vx_K_body hS hb hP hl h1, Or.inr ?_⟩
    rcases h2 with h2 | h2
    · exact absurd h2.symm hr
    · have h3 : vx_zz th (rf_n j 3 m F .leaf) < vx_zz th root.1 := h2
      rw [vx_zz_call, vx_zz_body hS hb] at h3
      exact h3
  · exact h th hS hp c (List.mem_cons_of_mem _ hc)
theorem vx_Kn_le {S T : vx_S} {al : Int → Prop} {p : vx_P} {root : rf_N × (Int → Int)} {pend : List (rf_N × (Int → Int))} (hW : vx_W S) (hle : vx_le S T) (hin : vx_in S p.1.1 ∧ vx_in S p.2.1.1) (hp : ∀ c ∈ pend, vx_in S c.1) (h : vx_Kn S al p root pend) : vx_Kn T al p root pend := fun th hT ht c hc => by
  have hS := vx_So_le hW hle hT
  have ht' : vx_pe th S.2.2.2.2 p := by
    unfold vx_pe at ht ⊢
    rw [vx_val_le hle hin.1, vx_val_le hle hin.2] at ht
    exact ht
  obtain ⟨h1, h2⟩ := h th hS ht' c hc
  refine ⟨fun z hz => h1 z ((vx_fv_ar (fun j hj => hle.2.2.2 j ((hp c hc).2.1 j hj))).mp hz), h2⟩
/-- a variable that is not allowed: no solution -/
theorem vx_Kn_var {S : vx_S} {al : Int → Prop} {p : vx_P} {root : rf_N × (Int → Int)} {pend : List (rf_N × (Int → Int))} {j : Nat} {h : Int} {F : rf_N} {e : Int → Int} (hh : vx_Kn S al p root ((rf_n j 2 h F .leaf, e) :: pend)) (ha : ¬ al (e h)) : ∀ th, vx_So S th → ¬ vx_pe th S.2.2.2.2 p := fun th hS hp => by
  obtain ⟨h1, _⟩ := hh th hS hp _ List.mem_cons_self
  exact ha (((vx_OK_rig (by decide) (by decide)).mp h1).1 rfl)
/-- the unknown stands in what it must be: no solution -/
theorem vx_Kn_self {S : vx_S} {al : Int → Prop} {L u : Int} {j j' : Nat} {F F' B : rf_N} {e d e' : Int → Int} {pend : List (rf_N × (Int → Int))} (hr : ∀ j F, B ≠ rf_n j 3 u F .leaf) (hh : vx_Kn S al ((rf_n j 3 u F .leaf, e), (B, d), L) (B, d) ((rf_n j' 3 u F' .leaf, e') :: pend)) : ∀ th, vx_So S th → ¬ vx_pe th S.2.2.2.2 ((rf_n j 3 u F .leaf, e), (B, d), L) := fun th hS hp => by
  obtain ⟨_, h2⟩ := hh th hS hp _ List.mem_cons_self
  rcases h2 with h2 | h2
  · exact hr _ _ h2.symm
  · have h3 : vx_zz th (rf_n j' 3 u F' .leaf) < vx_zz th B := h2
    rw [vx_zz_call] at h3
    have hp' : vx_val th S.2.2.2.2 (rf_n j 3 u F .leaf) e L = vx_val th S.2.2.2.2 B d L := hp
    have h4 := congrArg vx_sz hp'
    rw [vx_sz_val (fun m => (hS.1 m).1), vx_sz_val (fun m => (hS.1 m).1), vx_zz_call] at h4
    omega
/-- a narrowing on the walk: the unknown m at the top has ARGs that are not allowed -/
theorem vx_Kn_nw {S T : vx_S} {n0 : Int} {Q : (Int → rf_N) → Prop} {al : Int → Prop} {p : vx_P} {ps : List vx_P} {root : rf_N × (Int → Int)} {pend : List (rf_N × (Int → Int))} {j jn : Nat} {m : Int} {F Fn : rf_N} {e eu : Int → Int} {zs ks : List Int} (hJ : vx_J S n0 Q (p :: ps)) (hW : vx_W S) (hn : vx_nw S T m jn Fn eu zs ks) (hQ : ∀ th th', vx_ag n0 th th' → Q th → Q th') (hin : ∀ q ∈ p :: ps, vx_in S q.1.1 ∧ vx_in S q.2.1.1) (hl : ((S.2.2.2.2 j).length : Int) = S.2.2.1 m) (hk : ∀ (i : Nat) z, (S.2.2.2.2 j)[i]? = some z → al (e z) → (i : Int) ∈ ks) (h : vx_Kn S al p root ((rf_n j 3 m F .leaf, e) :: pend)) : vx_J T n0 Q (p :: ps) := by
  refine vx_J_nw hJ hW (vx_nw_le hn) hQ hin (fun th hS hq hp => vx_nw_So hn hW hS (fun v hv hv' => ?_))
  obtain ⟨h1, _⟩ := h th hS hp _ List.mem_cons_self
  have v0 := (hS.1 m).2 v hv
  have hi : v.toNat < (S.2.2.2.2 j).length := by omega
  have h2 := vx_OK_call.mp h1 v.toNat _ (List.getElem?_eq_getElem hi) (by
    show vx_oc ((v.toNat : Nat) : Int) (th m)
    rw [Int.toNat_of_nonneg v0]
    exact hv)
  have h3 := hk _ _ (List.getElem?_eq_getElem hi) h2
  rw [Int.toNat_of_nonneg v0] at h3
  exact h3
end
section
/-! ===== the desk's chains (Levels), exactly ===== -/
/-- a chain as a list of (variable, level); its links lie below hi -/
def dv_ch (V L R : Nat → Int) : List (Int × Int) → Int → Int → Prop
  | [], _, c => c = -1
  | p :: r, hi, c => (0 ≤ c ∧ c < hi) ∧ (V c.toNat = p.1 ∧ L c.toNat = p.2) ∧ dv_ch V L R r c (R c.toNat)
abbrev dv_c (s : sx_S) (c : List (Int × Int)) (hi k : Int) : Prop := dv_ch (s.2.1 30) (s.2.1 31) (s.2.1 32) c hi k
def dv_lk : List (Int × Int) → Int → Int
  | [], _ => -1
  | p :: r, x => if p.1 = x then p.2 else dv_lk r x
def dv_va : List (Int × Int) → Int → Int
  | [], _ => -1
  | p :: r, x => if p.2 = x then p.1 else dv_va r x
theorem dv_ch_hi {V L R : Nat → Int} {hi hi' : Int} (h : hi ≤ hi') : ∀ {c : List (Int × Int)} {k : Int}, dv_ch V L R c hi k → dv_ch V L R c hi' k
  | [], _, q => q
  | _ :: _, _, ⟨⟨q1, q2⟩, q3, q4⟩ => ⟨⟨q1, by omega⟩, q3, q4⟩
theorem dv_ch_fr {V L R V' L' R' : Nat → Int} : ∀ {c : List (Int × Int)} {hi k : Int}, (∀ j : Nat, (j : Int) < hi → V' j = V j ∧ L' j = L j ∧ R' j = R j) → dv_ch V L R c hi k → dv_ch V' L' R' c hi k
  | [], _, _, _, q => q
  | _ :: r, hi, k, h, ⟨⟨q1, q2⟩, ⟨q3, q4⟩, q5⟩ => by
    obtain ⟨e1, e2, e3⟩ := h k.toNat (by omega)
    refine ⟨⟨q1, q2⟩, ⟨e1.trans q3, e2.trans q4⟩, ?_⟩
    rw [e3]
    exact dv_ch_fr (fun j hj => h j (by omega)) q5
theorem dv_ch_rng {V L R : Nat → Int} : ∀ {c : List (Int × Int)} {hi k : Int}, dv_ch V L R c hi k → -1 ≤ k ∧ (k = -1 ∨ k < hi)
  | [], _, k, q => by
    have q' : k = -1 := q
    omega
  | _ :: _, _, _, ⟨⟨q1, q2⟩, _⟩ => ⟨by omega, Or.inr q2⟩
theorem w_dv_of5 {CALL : sx_Ca} {sL : Nat} {sx : Nat → Int32} {Q : Nat → sx_L → sx_S → Prop} {R : Int → sx_S → Prop} {s : sx_S} {a1 x3 x4 : Int} (hI : cx_I s) (q1 : -2147483648 ≤ a1 ∧ a1 ≤ 2147483647) (q3 : -2147483648 ≤ x3 ∧ x3 ≤ 2147483647) (q4 : 0 ≤ x4 ∧ x4 ≤ 1024) (hK1 : x3 < 0 → R (-1) s) (hK2 : 0 ≤ x3 → x3 < s.1 29 3 → s.2.1 30 x3.toNat = a1 → R (s.2.1 31 x3.toNat) s) (hQ : 0 ≤ x3 → x3 < s.1 29 3 → s.2.1 30 x3.toNat ≠ a1 → Q 5 [(0, .inr (.inl 29)), (2, .inl a1), (3, .inl (s.2.1 32 x3.toNat)), (4, .inl (x4 + 1))] s) (hx : x3 < s.1 29 3) (hy : 0 ≤ x3 → x4 < 1024) : sx_wp true sL sx eX3_of CALL [(5, [0, 2, 3, 4])] Q R 400 5 [(0, .inr (.inl 29)), (2, .inl a1), (3, .inl x3), (4, .inl x4)] [] s := by
  have h0 := hI.fld 29 3 (by decide) rfl
  have zzy : sx_w true (x4 + 1) = x4 + 1 := px_wid (by omega) (by omega)
  repeat' (first | (with_reducible (rintro _ rfl)) | (with_reducible intro _) | (refine And.intro ?_ ?_))
  all_goals (try dsimp only at *)
  all_goals (first | trivial | assumption | omega | (exfalso; omega) | (exact hK1 (by omega)) | (exact hK2 (by omega) (by omega) (by omega)) | (have zz9 := hQ (by omega) (by omega) (by omega); rw [← zzy] at zz9; exact zz9) | skip)
theorem w_dv_va5 {CALL : sx_Ca} {sL : Nat} {sx : Nat → Int32} {Q : Nat → sx_L → sx_S → Prop} {R : Int → sx_S → Prop} {s : sx_S} {a1 x3 x4 : Int} (hI : cx_I s) (q1 : -2147483648 ≤ a1 ∧ a1 ≤ 2147483647) (q3 : -2147483648 ≤ x3 ∧ x3 ≤ 2147483647) (q4 : 0 ≤ x4 ∧ x4 ≤ 1024) (hK1 : x3 < 0 → R (-1) s) (hK2 : 0 ≤ x3 → x3 < s.1 29 3 → s.2.1 31 x3.toNat = a1 → R (s.2.1 30 x3.toNat) s) (hQ : 0 ≤ x3 → x3 < s.1 29 3 → s.2.1 31 x3.toNat ≠ a1 → Q 5 [(0, .inr (.inl 29)), (2, .inl a1), (3, .inl (s.2.1 32 x3.toNat)), (4, .inl (x4 + 1))] s) (hx : x3 < s.1 29 3) (hy : 0 ≤ x3 → x4 < 1024) : sx_wp true sL sx eX3_variableAt CALL [(5, [0, 2, 3, 4])] Q R 400 5 [(0, .inr (.inl 29)), (2, .inl a1), (3, .inl x3), (4, .inl x4)] [] s := by
  have h0 := hI.fld 29 3 (by decide) rfl
  have zzy : sx_w true (x4 + 1) = x4 + 1 := px_wid (by omega) (by omega)
  repeat' (first | (with_reducible (rintro _ rfl)) | (with_reducible intro _) | (refine And.intro ?_ ?_))
  all_goals (try dsimp only at *)
  all_goals (first | trivial | assumption | omega | (exfalso; omega) | (exact hK1 (by omega)) | (exact hK2 (by omega) (by omega) (by omega)) | (have zz9 := hQ (by omega) (by omega) (by omega); rw [← zzy] at zz9; exact zz9) | skip)

theorem w_dv_of0 {CALL : sx_Ca} {sL : Nat} {sx : Nat → Int32} {Q : Nat → sx_L → sx_S → Prop} {R : Int → sx_S → Prop} {s : sx_S} {a0 a1 : Int} (hI : cx_I s) (q0 : -2147483648 ≤ a0 ∧ a0 ≤ 2147483647) (q1 : -2147483648 ≤ a1 ∧ a1 ≤ 2147483647) (hQ : Q 5 [(0, .inr (.inl 29)), (2, .inl a1), (3, .inl a0), (4, .inl 0)] s) : sx_wp true sL sx eX3_of CALL [(5, [0, 2, 3, 4])] Q R 400 0 (sx_argsF 0 [.inr (.inl 29), .inl a0, .inl a1]) [] s := by
  repeat' (first | (with_reducible (rintro _ rfl)) | (with_reducible intro _) | (refine And.intro ?_ ?_))
  all_goals (try dsimp only at *)
  all_goals (first | trivial | assumption | omega | skip)
theorem c_dv_of {sL : Nat} {sx : Nat → Int32} (hsL : sL ≤ 3072) (d : Nat) (hd : 2 ≤ d) : ∀ (a0 a1 hi : Int) (c : List (Int × Int)) (s : sx_S) (K : Int → sx_S → Prop), cx_I s → (-2147483648 ≤ a1 ∧ a1 ≤ 2147483647) → dv_c s c hi a0 → hi ≤ s.1 29 3 → K (dv_lk c a1) s → sx_C sL sx d 47 [.inr (.inl 29), .inl a0, .inl a1] s K := by
  intro a0 a1 hi c s K hI p1 hc hh hK
  have h0 := hI.fld 29 3 (by decide) rfl
  obtain ⟨d, rfl⟩ : ∃ e, d = e + 2 := ⟨d - 2, by omega⟩
  have r0 := dv_ch_rng hc
  refine sx_methL (wr := true) (n := 400) (n' := 400) (stop := [(5, [0, 2, 3, 4])]) (fun nn pc ls u => pc = 5 ∧ u = s ∧ ∃ (x3 x4 hi' : Int) (r : List (Int × Int)), ls = [(0, .inr (.inl 29)), (2, .inl a1), (3, .inl x3), (4, .inl x4)] ∧ dv_c s r hi' x3 ∧ hi' ≤ s.1 29 3 ∧ dv_lk r a1 = dv_lk c a1 ∧ (0 ≤ x4 ∧ x4 + hi' ≤ 1024) ∧ (0 ≤ hi') ∧ nn = r.length) hsL (e := eX3_of) rfl ?_ ?_
  · exact w_dv_of0 hI (by omega) p1 ⟨_, rfl, rfl, a0, 0, s.1 29 3, c, rfl, dv_ch_hi hh hc, by omega, rfl, by omega, by omega, rfl⟩
  · rintro nn pc ls u ⟨rfl, rfl, x3, x4, hi', r, rfl, i1, i2, i3, i4, i5, rfl⟩
    have r3 := dv_ch_rng i1
    cases r with
    | nil =>
      have e3 : x3 = -1 := i1
      refine w_dv_of5 hI p1 (by omega) (by omega) (fun _ => ?_) (fun h => absurd h (by omega)) (fun h => absurd h (by omega)) (by omega) (fun h => absurd h (by omega))
      have i3' : (-1 : Int) = dv_lk c a1 := i3
      rw [i3']
      exact hK
    | cons p r =>
      obtain ⟨⟨q1, q2⟩, ⟨q3, q4⟩, q5⟩ := i1
      have i3' : (if p.1 = a1 then p.2 else dv_lk r a1) = dv_lk c a1 := i3
      refine w_dv_of5 hI p1 (by omega) (by omega) (fun h => absurd h (by omega)) (fun _ _ h => ?_) (fun _ _ h => ?_) (by omega) (fun _ => by omega)
      · rw [if_pos (q3.symm.trans h)] at i3'
        rw [q4, i3']
        exact hK
      · rw [if_neg (fun q => h (q3.trans q))] at i3'
        have r5 := dv_ch_rng q5
        exact ⟨_, by rw [List.length_cons]; omega, rfl, rfl, _, _, x3, r, rfl, q5, by omega, i3', by omega, by omega, rfl⟩

theorem w_dv_va0 {CALL : sx_Ca} {sL : Nat} {sx : Nat → Int32} {Q : Nat → sx_L → sx_S → Prop} {R : Int → sx_S → Prop} {s : sx_S} {a0 a1 : Int} (hI : cx_I s) (q0 : -2147483648 ≤ a0 ∧ a0 ≤ 2147483647) (q1 : -2147483648 ≤ a1 ∧ a1 ≤ 2147483647) (hQ : Q 5 [(0, .inr (.inl 29)), (2, .inl a1), (3, .inl a0), (4, .inl 0)] s) : sx_wp true sL sx eX3_variableAt CALL [(5, [0, 2, 3, 4])] Q R 400 0 (sx_argsF 0 [.inr (.inl 29), .inl a0, .inl a1]) [] s := by
  repeat' (first | (with_reducible (rintro _ rfl)) | (with_reducible intro _) | (refine And.intro ?_ ?_))
  all_goals (try dsimp only at *)
  all_goals (first | trivial | assumption | omega | skip)
theorem c_dv_va {sL : Nat} {sx : Nat → Int32} (hsL : sL ≤ 3072) (d : Nat) (hd : 2 ≤ d) : ∀ (a0 a1 hi : Int) (c : List (Int × Int)) (s : sx_S) (K : Int → sx_S → Prop), cx_I s → (-2147483648 ≤ a1 ∧ a1 ≤ 2147483647) → dv_c s c hi a0 → hi ≤ s.1 29 3 → K (dv_va c a1) s → sx_C sL sx d 48 [.inr (.inl 29), .inl a0, .inl a1] s K := by
  intro a0 a1 hi c s K hI p1 hc hh hK
  have h0 := hI.fld 29 3 (by decide) rfl
  obtain ⟨d, rfl⟩ : ∃ e, d = e + 2 := ⟨d - 2, by omega⟩
  have r0 := dv_ch_rng hc
  refine sx_methL (wr := true) (n := 400) (n' := 400) (stop := [(5, [0, 2, 3, 4])]) (fun nn pc ls u => pc = 5 ∧ u = s ∧ ∃ (x3 x4 hi' : Int) (r : List (Int × Int)), ls = [(0, .inr (.inl 29)), (2, .inl a1), (3, .inl x3), (4, .inl x4)] ∧ dv_c s r hi' x3 ∧ hi' ≤ s.1 29 3 ∧ dv_va r a1 = dv_va c a1 ∧ (0 ≤ x4 ∧ x4 + hi' ≤ 1024) ∧ (0 ≤ hi') ∧ nn = r.length) hsL (e := eX3_variableAt) rfl ?_ ?_
  · exact w_dv_va0 hI (by omega) p1 ⟨_, rfl, rfl, a0, 0, s.1 29 3, c, rfl, dv_ch_hi hh hc, by omega, rfl, by omega, by omega, rfl⟩
  · rintro nn pc ls u ⟨rfl, rfl, x3, x4, hi', r, rfl, i1, i2, i3, i4, i5, rfl⟩
    have r3 := dv_ch_rng i1
    cases r with
    | nil =>
      have e3 : x3 = -1 := i1
      refine w_dv_va5 hI p1 (by omega) (by omega) (fun _ => ?_) (fun h => absurd h (by omega)) (fun h => absurd h (by omega)) (by omega) (fun h => absurd h (by omega))
      have i3' : (-1 : Int) = dv_va c a1 := i3
      rw [i3']
      exact hK
    | cons p r =>
      obtain ⟨⟨q1, q2⟩, ⟨q3, q4⟩, q5⟩ := i1
      have i3' : (if p.2 = a1 then p.1 else dv_va r a1) = dv_va c a1 := i3
      refine w_dv_va5 hI p1 (by omega) (by omega) (fun h => absurd h (by omega)) (fun _ _ h => ?_) (fun _ _ h => ?_) (by omega) (fun _ => by omega)
      · rw [if_pos (q4.symm.trans h)] at i3'
        rw [q3, i3']
        exact hK
      · rw [if_neg (fun q => h (q4.trans q))] at i3'
        have r5 := dv_ch_rng q5
        exact ⟨_, by rw [List.length_cons]; omega, rfl, rfl, _, _, x3, r, rfl, q5, by omega, i3', by omega, by omega, rfl⟩

/-- a link more -/
def dv_w1 (a0 a1 a2 : Int) (s t : sx_S) : Prop := True → t.1 29 3 = s.1 29 3 + 1 ∧ (∀ j : Nat, (j : Int) ≠ s.1 29 3 → t.2.1 30 j = s.2.1 30 j ∧ t.2.1 31 j = s.2.1 31 j ∧ t.2.1 32 j = s.2.1 32 j) ∧ (t.2.1 30 (s.1 29 3).toNat = a1 ∧ t.2.1 31 (s.1 29 3).toNat = a2 ∧ t.2.1 32 (s.1 29 3).toNat = a0)
theorem w_dv_with {CALL : sx_Ca} {sL : Nat} {sx : Nat → Int32} {Q : Nat → sx_L → sx_S → Prop} {R : Int → sx_S → Prop} {s : sx_S} {a0 a1 a2 : Int} (hI : cx_I s) (hN : s.1 29 3 < 1024) (p0 : -2147483648 ≤ a0 ∧ a0 ≤ 2147483647) (p1 : -2147483648 ≤ a1 ∧ a1 ≤ 2147483647) (p2 : -2147483648 ≤ a2 ∧ a2 ≤ 2147483647) (hK : ∀ t, cx_I t → cx_F [(29, 32)] s t → dv_w1 a0 a1 a2 s t → R (s.1 29 3) t) : sx_wp true sL sx eX3_with CALL [] Q R 400 0 (sx_argsF 0 [.inr (.inl 29), .inl a0, .inl a1, .inl a2]) [] s := by
  have h0 := hI.fld 29 3 (by decide) rfl
  have m3 : dv_w1 a0 a1 a2 s (sx_uf s.1 29 3 (s.1 29 3 + 1), sx_ua (sx_ua (sx_ua s.2.1 30 (s.1 29 3).toNat a1) 31 (s.1 29 3).toNat a2) 32 (s.1 29 3).toNat a0, s.2.2) := fun _ => by
    refine ⟨by dsimp only; exact px_us _ _ _ _, fun j hj => ?_, ?_⟩
    · have hj2 : j ≠ (s.1 29 3).toNat := by omega
      simp [sx_ua_if, hj2]
    · simp [sx_ua_if]
  have m1 : cx_I (sx_uf s.1 29 3 (s.1 29 3 + 1), sx_ua (sx_ua (sx_ua s.2.1 30 (s.1 29 3).toNat a1) 31 (s.1 29 3).toNat a2) 32 (s.1 29 3).toNat a0, s.2.2) := cx_I_uf rfl rfl (cx_I_ua rfl rfl (cx_I_ua rfl rfl (cx_I_ua rfl rfl hI (by omega) (by omega)) (by omega) (by omega)) (by omega) (by omega)) (by omega) (by omega)
  have zz1 := hK _ m1 (cx_F_uf rfl (cx_F_ua rfl (cx_F_ua rfl (cx_F_ua rfl (cx_F_refl _ _))))) m3
  have zzu : sx_w true (s.1 29 3 + 1) = s.1 29 3 + 1 := px_wid (by omega) (by omega)
  have zzv : sx_w true (s.1 29 3 + 1 - 1) = s.1 29 3 := by rw [px_wid (by omega) (by omega)]; omega
  repeat' (first | (with_reducible (rintro _ rfl)) | (with_reducible intro _) | (refine And.intro ?_ ?_))
  all_goals (try dsimp only at *)
  all_goals (first | trivial | assumption | omega | (exfalso; omega) | (show R _ _; simp only [px_us, zzu, zzv]; exact zz1) | (simp only [px_us, zzu, zzv] at *; first | assumption | omega) | (repeat' (first | (with_reducible assumption) | ((with_reducible (change cx_I (sx_uf _ _ _ _, _))); refine cx_I_uf rfl rfl ?_ ?_ ?_) | ((with_reducible (change cx_I (_, sx_ua _ _ _ _, _))); refine cx_I_ua rfl rfl ?_ ?_ ?_) | ((with_reducible (change cx_I (_, sx_ua _ 16 _ _, _))); refine cx_I_ari ?_ ?_ ?_) | ((with_reducible (change cx_I (sx_uf _ 11 6 _, _))); refine cx_I_ufA rfl ?_ ?_ ?_ ?_) | (with_reducible exact cx_F_refl _ _) | ((with_reducible (change cx_F _ _ (sx_uf _ _ _ _, _))); refine cx_F_uf rfl ?_) | ((with_reducible (change cx_F _ _ (_, sx_ua _ _ _ _, _))); refine cx_F_ua rfl ?_) | ((with_reducible (change cx_I (_, sx_cpy _ _ _ _ _ _, _))); refine cx_I_cpy rfl rfl rfl (by decide) ?_) | ((with_reducible (change cx_F _ _ (_, sx_cpy _ _ _ _ _ _, _))); refine cx_F_cpy rfl ?_) | ((with_reducible (change cx_F _ _ _)); refine cx_F_step (by assumption) rfl ?_) | fail)) | skip)
  all_goals (first | trivial | assumption | omega | (simp only [px_us, zzu, zzv] at *; omega) | skip)
theorem c_dv_with {sL : Nat} {sx : Nat → Int32} (hsL : sL ≤ 3072) (d : Nat) (hd : 2 ≤ d) : ∀ (a0 a1 a2 : Int) (s : sx_S) (R : Int → sx_S → Prop), cx_I s → s.1 29 3 < 1024 → (-2147483648 ≤ a0 ∧ a0 ≤ 2147483647) → (-2147483648 ≤ a1 ∧ a1 ≤ 2147483647) → (-2147483648 ≤ a2 ∧ a2 ≤ 2147483647) → (∀ t, cx_I t → cx_F [(29, 32)] s t → dv_w1 a0 a1 a2 s t → R (s.1 29 3) t) → sx_C sL sx d 46 [.inr (.inl 29), .inl a0, .inl a1, .inl a2] s R := by
  intro a0 a1 a2 s R hI hN p0 p1 p2 hK
  obtain ⟨d, rfl⟩ : ∃ e, d = e + 2 := ⟨d - 2, by omega⟩
  exact sx_meth (wr := true) (n := 400) hsL (e := eX3_with) rfl (w_dv_with (Q := fun _ _ _ => False) hI hN p0 p1 p2 hK)
/-- what a link more makes of chains -/
theorem dv_w1_c {a0 a1 a2 hi : Int} {s t : sx_S} {c : List (Int × Int)} (h0 : 0 ≤ s.1 29 3) (h : dv_w1 a0 a1 a2 s t) (hh : hi ≤ s.1 29 3) (hc : dv_c s c hi a0) : dv_c t ((a1, a2) :: c) (t.1 29 3) (s.1 29 3) := by
  obtain ⟨h1, h2, h3, h4, h5⟩ := h trivial
  refine ⟨⟨h0, by omega⟩, ⟨h3, h4⟩, ?_⟩
  rw [h5]
  exact dv_ch_fr (fun j hj => h2 j (by omega)) (dv_ch_hi hh hc)
theorem w_dv_mark {CALL : sx_Ca} {sL : Nat} {sx : Nat → Int32} {Q : Nat → sx_L → sx_S → Prop} {R : Int → sx_S → Prop} {s : sx_S} (hI : cx_I s) (hK : ∀ z : Int, (z = s.1 29 3) → R z s) : sx_wp true sL sx eX3_mark CALL [] Q R 400 0 (sx_argsF 0 [.inr (.inl 29)]) [] s := by
  repeat' (first | (with_reducible intro _) | (refine And.intro ?_ ?_) | (refine hK _ ?_))
  all_goals (try dsimp only)
  repeat' (first | (with_reducible assumption) | ((with_reducible (change cx_I (sx_uf _ _ _ _, _))); refine cx_I_uf rfl rfl ?_ ?_ ?_) | ((with_reducible (change cx_I (_, sx_ua _ _ _ _, _))); refine cx_I_ua rfl rfl ?_ ?_ ?_) | ((with_reducible (change cx_I (_, sx_ua _ 16 _ _, _))); refine cx_I_ari ?_ ?_ ?_) | ((with_reducible (change cx_I (sx_uf _ 11 6 _, _))); refine cx_I_ufA rfl ?_ ?_ ?_ ?_) | (with_reducible exact cx_F_refl _ _) | ((with_reducible (change cx_F _ _ (sx_uf _ _ _ _, _))); refine cx_F_uf rfl ?_) | ((with_reducible (change cx_F _ _ (_, sx_ua _ _ _ _, _))); refine cx_F_ua rfl ?_) | ((with_reducible (change cx_I (_, sx_cpy _ _ _ _ _ _, _))); refine cx_I_cpy rfl rfl rfl (by decide) ?_) | ((with_reducible (change cx_F _ _ (_, sx_cpy _ _ _ _ _ _, _))); refine cx_F_cpy rfl ?_) | ((with_reducible (change cx_F _ _ _)); refine cx_F_step (by assumption) rfl ?_) | fail)
  all_goals (try dsimp only at *)
  all_goals (first | trivial | omega | rfl | (intros; omega) | (intros; rfl) | skip)

theorem c_dv_mark {sL : Nat} {sx : Nat → Int32} (hsL : sL ≤ 3072) (d : Nat) (hd : 2 ≤ d) : ∀ (s : sx_S) (K : Int → sx_S → Prop), cx_I s → (∀ z : Int, (z = s.1 29 3) → K z s) → sx_C sL sx d 44 [.inr (.inl 29)] s K := by
  intro  s K hI  hK
  obtain ⟨d, rfl⟩ : ∃ e, d = e + 2 := ⟨d - 2, by omega⟩
  exact sx_meth (wr := true) (n := 400) hsL (e := eX3_mark) rfl (w_dv_mark (Q := fun _ _ _ => False)  hI  hK)

theorem w_dv_rel {CALL : sx_Ca} {sL : Nat} {sx : Nat → Int32} {Q : Nat → sx_L → sx_S → Prop} {R : Int → sx_S → Prop} {s : sx_S} {a0 : Int} (hI : cx_I s) (p0 : (-2147483648 ≤ a0 ∧ a0 ≤ 2147483647)) (hK : ∀ (z : Int) (t : sx_S), cx_I t → cx_F [(29, 29)] s t → (0 ≤ a0 → a0 ≤ s.1 29 3 → t.1 29 3 = a0) → R z t) : sx_wp true sL sx eX3_release CALL [] Q R 400 0 (sx_argsF 0 [.inr (.inl 29), .inl a0]) [] s := by
  repeat' (first | (with_reducible intro _) | (refine And.intro ?_ ?_) | (refine hK _ _ ?_ ?_ ?_))
  all_goals (try dsimp only)
  repeat' (first | (with_reducible assumption) | ((with_reducible (change cx_I (sx_uf _ _ _ _, _))); refine cx_I_uf rfl rfl ?_ ?_ ?_) | ((with_reducible (change cx_I (_, sx_ua _ _ _ _, _))); refine cx_I_ua rfl rfl ?_ ?_ ?_) | ((with_reducible (change cx_I (_, sx_ua _ 16 _ _, _))); refine cx_I_ari ?_ ?_ ?_) | ((with_reducible (change cx_I (sx_uf _ 11 6 _, _))); refine cx_I_ufA rfl ?_ ?_ ?_ ?_) | (with_reducible exact cx_F_refl _ _) | ((with_reducible (change cx_F _ _ (sx_uf _ _ _ _, _))); refine cx_F_uf rfl ?_) | ((with_reducible (change cx_F _ _ (_, sx_ua _ _ _ _, _))); refine cx_F_ua rfl ?_) | ((with_reducible (change cx_I (_, sx_cpy _ _ _ _ _ _, _))); refine cx_I_cpy rfl rfl rfl (by decide) ?_) | ((with_reducible (change cx_F _ _ (_, sx_cpy _ _ _ _ _ _, _))); refine cx_F_cpy rfl ?_) | ((with_reducible (change cx_F _ _ _)); refine cx_F_step (by assumption) rfl ?_) | fail)
  all_goals (first | trivial | omega | (dsimp only at *; omega) | (simp only [sx_uf_if, sx_ua_if, sx_w_t, true_and, and_true, and_self, and_false, false_and, if_true, if_false, reduceIte] at *; omega) | (subst_vars; rfl) | (subst_vars; decide))

theorem c_dv_rel {sL : Nat} {sx : Nat → Int32} (hsL : sL ≤ 3072) (d : Nat) (hd : 2 ≤ d) : ∀ (a0 : Int) (s : sx_S) (K : Int → sx_S → Prop), cx_I s → (-2147483648 ≤ a0 ∧ a0 ≤ 2147483647) → (∀ (z : Int) (t : sx_S), cx_I t → cx_F [(29, 29)] s t → (0 ≤ a0 → a0 ≤ s.1 29 3 → t.1 29 3 = a0) → K z t) → sx_C sL sx d 45 [.inr (.inl 29), .inl a0] s K := by
  intro a0 s K hI p0 hK
  obtain ⟨d, rfl⟩ : ∃ e, d = e + 2 := ⟨d - 2, by omega⟩
  exact sx_meth (wr := true) (n := 400) hsL (e := eX3_release) rfl (w_dv_rel (Q := fun _ _ _ => False)  hI p0 hK)
end
