/-! ===== solutions: what the unknowns' values must keep ===== -/
/-- the unknown m stands in it -/
def vx_mt (m : Int) : rf_N → Prop
  | .leaf => False
  | .inner _ q _ F X => (q.1 = 3 ∧ q.2 = m) ∨ (q.1 ≠ 3 ∧ vx_mt m F) ∨ vx_mt m X
theorem vx_val_th {th th' : Int → rf_N} {AR AR' : Nat → List Int} : ∀ {A : rf_N} {e : Int → Int} {L : Int}, (∀ m, vx_mt m A → th m = th' m) → (∀ j ∈ rf_idx A, AR j = AR' j) → vx_val th AR A e L = vx_val th' AR' A e L
  | .leaf, _, _, _, _ => rfl
  | .inner j q u F X, e, L, hm, hj => by
    have hX := vx_val_th (th := th) (th' := th') (AR := AR) (AR' := AR') (A := X) (e := e) (L := L) (fun m h => hm m (Or.inr (Or.inr h))) (fun i h => hj i (List.mem_cons_of_mem _ (List.mem_append_right _ h)))
    have hF : q.1 ≠ 3 → ∀ e L, vx_val th AR F e L = vx_val th' AR' F e L := fun h3 e L => vx_val_th (fun m h => hm m (Or.inr (Or.inl ⟨h3, h⟩))) (fun i h => hj i (List.mem_cons_of_mem _ (List.mem_append_left _ h)))
    rw [vx_val_in, vx_val_in, hX]
    by_cases h0 : q.1 = 0
    · rw [if_pos h0, if_pos h0, hF (by omega)]
    · rw [if_neg h0, if_neg h0]
      by_cases h3 : q.1 = 3
      · rw [if_pos h3, if_pos h3, hm q.2 (Or.inl ⟨h3, rfl⟩), hj j List.mem_cons_self]
      · rw [if_neg h3, if_neg h3, hF h3]
/-- a place in a row -/
def vx_ii : List Int → Int → Int
  | [], _ => 0
  | x :: xs, w => if x = w then 0 else 1 + vx_ii xs w
theorem vx_ii_c (x : Int) (xs : List Int) (w : Int) : vx_ii (x :: xs) w = if x = w then 0 else 1 + vx_ii xs w := rfl
theorem vx_ii_0 : ∀ (xs : List Int) (w : Int), 0 ≤ vx_ii xs w
  | [], _ => Int.le_refl _
  | x :: xs, w => by
    rw [vx_ii_c]
    have := vx_ii_0 xs w
    by_cases h : x = w
    · rw [if_pos h]
      exact Int.le_refl _
    · rw [if_neg h]
      omega
theorem vx_ii_lt : ∀ {xs : List Int} {w : Int}, w ∈ xs → vx_ii xs w < (xs.length : Int)
  | [], _, h => absurd h List.not_mem_nil
  | x :: xs, w, h => by
    rw [vx_ii_c, List.length_cons]
    by_cases hx : x = w
    · rw [if_pos hx]
      omega
    · rw [if_neg hx]
      rcases List.mem_cons.mp h with rfl | h
      · exact absurd rfl hx
      · have := vx_ii_lt h
        omega
theorem vx_ii_at : ∀ {xs : List Int} {w : Int} {i : Nat}, xs.Nodup → xs[i]? = some w → vx_ii xs w = (i : Int)
  | [], _, _, _, h => by simp at h
  | x :: xs, w, 0, _, h => by
    have : x = w := by simpa using h
    rw [vx_ii_c]
    rw [if_pos this]
    rfl
  | x :: xs, w, i + 1, hn, h => by
    rw [List.getElem?_cons_succ] at h
    obtain ⟨n1, n2⟩ := List.nodup_cons.mp hn
    rw [vx_ii_c]
    have hx : x ≠ w := fun e => n1 (by rw [e]; exact List.mem_of_getElem? h)
    rw [if_neg hx, vx_ii_at n2 h]
    omega
theorem vx_ii_get : ∀ {xs : List Int} {w : Int}, w ∈ xs → xs[(vx_ii xs w).toNat]? = some w
  | [], _, h => absurd h List.not_mem_nil
  | x :: xs, w, h => by
    rw [vx_ii_c]
    by_cases hx : x = w
    · rw [if_pos hx, hx]
      rfl
    · rw [if_neg hx]
      rcases List.mem_cons.mp h with rfl | h
      · exact absurd rfl hx
      · have h0 := vx_ii_0 xs w
        rw [show (1 + vx_ii xs w).toNat = (vx_ii xs w).toNat + 1 by omega, List.getElem?_cons_succ]
        exact vx_ii_get h
theorem vx_getD {xs : List Int} {i : Nat} {w : Int} (h : xs[i]? = some w) : xs.getD i (-1) = w := by
  rw [List.getD_eq_getElem?_getD, h]
  rfl
theorem vx_ix_hi {xs : List Int} {L : Int} {i : Int} (hi : 0 ≤ i) : vx_ix xs L ((xs.length : Int) + i) = L + i := by
  unfold vx_ix
  rw [if_neg (by omega)]
  omega
/-- going into the body of an unknown -/
theorem vx_enter {th : Int → rf_N} {AR : Nat → List Int} {m : Int} {B : rf_N} {e e' : Int → Int} {xs : List Int} {L : Int} (hg : vx_gd th) (hm : th m = vx_val th AR B e (xs.length : Int)) (hlt : ∀ z, e z < (xs.length : Int)) (hP : ∀ z, 0 ≤ e z → e' z = xs.getD (e z).toNat (-1)) : vx_re (vx_ix xs L) (th m) = vx_val th AR B e' L := by
  have h1 : vx_re (vx_ix xs L) (vx_val th AR B e (xs.length : Int)) = vx_val th AR B (fun v => vx_ix xs L (e v)) L := vx_val_re hg (fun i hi => vx_ix_hi hi)
  rw [hm, h1]
  refine vx_val_cg hg (fun z hz => ?_)
  have h2 := vx_fv_oc hg (e := e) (L := (xs.length : Int)) hz
  rw [← hm] at h2
  have h3 := (hg m).2 _ h2
  show vx_ix xs L (e z) = e' z
  rw [hP z h3]
  unfold vx_ix
  rw [if_pos (hlt z)]
/-- an unknown before distinct variables is this term: what its value is -/
theorem vx_bind {th : Int → rf_N} {AR : Nat → List Int} {u : Int} {B : rf_N} {e eu : Int → Int} {xs : List Int} {L : Int} (hg : vx_gd th) (hs : vx_sc (th u) (xs.length : Int)) (hn : xs.Nodup) (hx : ∀ x ∈ xs, x < L) (he : ∀ z, e z < L) (hP : ∀ z (i : Nat), xs[i]? = some (e z) → eu z = (i : Int)) (h : vx_re (vx_ix xs L) (th u) = vx_val th AR B e L) : th u = vx_val th AR B eu (xs.length : Int) := by
  have h1 : vx_re (fun w => if L ≤ w then (xs.length : Int) + (w - L) else vx_ii xs w) (vx_re (vx_ix xs L) (th u)) = th u := by
    rw [vx_re_re]
    refine vx_re_id hs (fun v hv => ?_)
    have v0 := (hg u).2 v hv
    try dsimp only
    unfold vx_ix
    by_cases hl : v < (xs.length : Int)
    · rw [if_pos hl]
      have hi : v.toNat < xs.length := by omega
      have hg := List.getElem?_eq_getElem hi
      rw [vx_getD hg, if_neg (by have := hx _ (List.mem_of_getElem? hg); omega), vx_ii_at hn hg]
      omega
    · rw [if_neg hl, if_pos (by omega)]
      omega
  rw [h] at h1
  have h2 : vx_re (fun w => if L ≤ w then (xs.length : Int) + (w - L) else vx_ii xs w) (vx_val th AR B e L) = vx_val th AR B (fun v => if L ≤ e v then (xs.length : Int) + (e v - L) else vx_ii xs (e v)) (xs.length : Int) := vx_val_re hg (fun i hi => by
    try dsimp only
    rw [if_pos (by omega)]
    omega)
  rw [← h1, h2]
  refine vx_val_cg hg (fun z hz => ?_)
  have h3 := vx_fv_oc hg (e := e) (L := L) hz
  rw [← h] at h3
  obtain ⟨v, v1, v2⟩ := vx_oc_re.mp h3
  have v0 := (hg u).2 v v1
  have ez := he z
  try dsimp only
  rw [if_neg (by omega)]
  unfold vx_ix at v2
  by_cases hl : v < (xs.length : Int)
  · rw [if_pos hl] at v2
    have hi : v.toNat < xs.length := by omega
    have hg := List.getElem?_eq_getElem hi
    rw [vx_getD hg] at v2
    rw [v2] at hg
    rw [vx_ii_at hn hg, hP z v.toNat hg]
  · rw [if_neg hl] at v2
    omega
theorem vx_same {th : Int → rf_N} {u : Int} {xs ys : List Int} {L : Int} (hg : vx_gd th) (hl : xs.length = ys.length) : vx_re (vx_ix xs L) (th u) = vx_re (vx_ix ys L) (th u) ↔ ∀ i : Nat, i < xs.length → vx_oc (i : Int) (th u) → xs[i]? = ys[i]? := by
  rw [vx_re_eq]
  constructor
  · intro h i hi ho
    have := h i ho
    unfold vx_ix at this
    rw [if_pos (by omega), if_pos (by omega), Int.toNat_natCast, vx_gD hi, vx_gD (by omega)] at this
    rw [List.getElem?_eq_getElem hi, List.getElem?_eq_getElem (by omega), this]
  · intro h v hv
    have v0 := (hg u).2 v hv
    unfold vx_ix
    by_cases hc : v < (xs.length : Int)
    · have := h v.toNat (by omega) (by rw [Int.toNat_of_nonneg v0]; exact hv)
      rw [if_pos hc, if_pos (by omega), List.getD_eq_getElem?_getD, List.getD_eq_getElem?_getD, this]
    · rw [if_neg hc, if_neg (by omega), hl]
theorem vx_sc_re {ρ : Int → Int} {a L : Int} (h0 : 0 ≤ L) : ∀ {A : rf_N} {b : Int}, a ≤ b → vx_sc A b → (∀ v, vx_oc v A → v < a → 0 ≤ ρ v ∧ ρ v < L) → (∀ v, a ≤ v → ρ v = L + (v - a)) → vx_sc (vx_re ρ A) (L + (b - a))
  | .leaf, _, _, _, _, _ => trivial
  | .inner j q u F X, b, hb, hs, hv, hr => by
    obtain ⟨_, hs, hX⟩ := hs
    refine ⟨rfl, ?_, vx_sc_re h0 hb hX (fun v h => hv v (Or.inr (Or.inr h))) hr⟩
    rcases hs with ⟨h1, h2, hF⟩ | ⟨h1, hF⟩
    · refine Or.inl ⟨h1, ?_, ?_⟩
      · show (if q.1 = 2 then ρ q.2 else q.2) = 0
        rw [if_neg (by omega)]
        exact h2
      · have := vx_sc_re h0 (b := b + 1) (by omega) hF (fun v h => hv v (Or.inr (Or.inl h))) hr
        rw [show L + (b + 1 - a) = L + (b - a) + 1 by omega] at this
        exact this
    · refine Or.inr ⟨?_, vx_sc_re h0 hb hF (fun v h => hv v (Or.inr (Or.inl h))) hr⟩
      rcases h1 with h1 | ⟨h1, h2, h3⟩
      · exact Or.inl h1
      · refine Or.inr ⟨h1, ?_⟩
        show 0 ≤ (if q.1 = 2 then ρ q.2 else q.2) ∧ (if q.1 = 2 then ρ q.2 else q.2) < L + (b - a)
        rw [if_pos h1]
        by_cases c : q.2 < a
        · have := hv q.2 (Or.inl ⟨h1, rfl⟩) c
          omega
        · rw [hr q.2 (by omega)]
          omega
/-- its nodes are of the four kinds, its calls have as many ARGs as they must -/
def vx_ok (ar : Int → Int) (AR : Nat → List Int) : rf_N → Prop
  | .leaf => True
  | .inner j q _ F X => (((q.1 = 0 ∨ q.1 = 1 ∨ q.1 = 2) ∧ vx_ok ar AR F) ∨ (q.1 = 3 ∧ ((AR j).length : Int) = ar q.2)) ∧ vx_ok ar AR X
theorem vx_ok_cg {ar ar' : Int → Int} {AR AR' : Nat → List Int} : ∀ {A : rf_N}, (∀ m, vx_mt m A → ar' m = ar m) → (∀ j ∈ rf_idx A, AR' j = AR j) → vx_ok ar AR A → vx_ok ar' AR' A
  | .leaf, _, _, _ => trivial
  | .inner j q u F X, hm, hj, h => by
    refine ⟨?_, vx_ok_cg (fun m z => hm m (Or.inr (Or.inr z))) (fun i z => hj i (List.mem_cons_of_mem _ (List.mem_append_right _ z))) h.2⟩
    rcases h.1 with ⟨h1, h2⟩ | ⟨h1, h2⟩
    · exact Or.inl ⟨h1, vx_ok_cg (fun m z => hm m (Or.inr (Or.inl ⟨by omega, z⟩))) (fun i z => hj i (List.mem_cons_of_mem _ (List.mem_append_left _ z))) h2⟩
    · exact Or.inr ⟨h1, by rw [hj j List.mem_cons_self, hm q.2 (Or.inl ⟨h1, rfl⟩)]; exact h2⟩
/-- a state of solving: how many unknowns, how many nodes, arities, bodies with what their variables are, ARGs by node -/
abbrev vx_S : Type := Int × Int × (Int → Int) × (Int → Option (rf_N × (Int → Int))) × (Nat → List Int)
def vx_So (S : vx_S) (th : Int → rf_N) : Prop := vx_gd th ∧ (∀ u, 0 ≤ u → u < S.1 → vx_sc (th u) (S.2.2.1 u)) ∧ ∀ u B e, S.2.2.2.1 u = some (B, e) → th u = vx_val th S.2.2.2.2 B e (S.2.2.1 u)
/-- a tree over the unknowns and nodes of the state; its calls have as many ARGs as they must -/
def vx_in (S : vx_S) (A : rf_N) : Prop := (∀ m, vx_mt m A → 0 ≤ m ∧ m < S.1) ∧ (∀ j ∈ rf_idx A, (j : Int) < S.2.1) ∧ vx_ok S.2.2.1 S.2.2.2.2 A
def vx_W (S : vx_S) : Prop := ∀ u B e, S.2.2.2.1 u = some (B, e) → (0 ≤ u ∧ u < S.1) ∧ vx_in S B ∧ ∀ z, e z < S.2.2.1 u
/-- more is known -/
def vx_le (S T : vx_S) : Prop := (S.1 ≤ T.1 ∧ S.2.1 ≤ T.2.1) ∧ (∀ u, 0 ≤ u → u < S.1 → T.2.2.1 u = S.2.2.1 u) ∧ (∀ u B e, S.2.2.2.1 u = some (B, e) → T.2.2.2.1 u = some (B, e)) ∧ (∀ j : Nat, (j : Int) < S.2.1 → T.2.2.2.2 j = S.2.2.2.2 j)
theorem vx_le_refl (S : vx_S) : vx_le S S := ⟨⟨Int.le_refl _, Int.le_refl _⟩, fun _ _ _ => rfl, fun _ _ _ h => h, fun _ _ => rfl⟩
theorem vx_le_trans {S T R : vx_S} (h1 : vx_le S T) (h2 : vx_le T R) : vx_le S R := by
  obtain ⟨⟨a1, a2⟩, a3, a4, a5⟩ := h1
  obtain ⟨⟨b1, b2⟩, b3, b4, b5⟩ := h2
  exact ⟨⟨by omega, by omega⟩, fun u h0 hu => (b3 u h0 (by omega)).trans (a3 u h0 hu), fun u B e h => b4 u B e (a4 u B e h), fun j hj => (b5 j (by omega)).trans (a5 j hj)⟩
theorem vx_in_le {S T : vx_S} {A : rf_N} (h : vx_le S T) (hA : vx_in S A) : vx_in T A := ⟨fun m hm => by have := hA.1 m hm; have := h.1; omega, fun j hj => by have := hA.2.1 j hj; have := h.1; omega, vx_ok_cg (fun m hm => h.2.1 m (hA.1 m hm).1 (hA.1 m hm).2) (fun j hj => h.2.2.2 j (hA.2.1 j hj)) hA.2.2⟩
theorem vx_val_le {S T : vx_S} {A : rf_N} {th : Int → rf_N} {e : Int → Int} {L : Int} (h : vx_le S T) (hA : vx_in S A) : vx_val th T.2.2.2.2 A e L = vx_val th S.2.2.2.2 A e L := vx_val_th (fun _ _ => rfl) (fun j hj => h.2.2.2 j (hA.2.1 j hj))
/-- the solutions of the later state are some of those of the earlier one -/
theorem vx_So_le {S T : vx_S} {th : Int → rf_N} (hW : vx_W S) (h : vx_le S T) (hT : vx_So T th) : vx_So S th := by
  obtain ⟨t1, t2, t3⟩ := hT
  refine ⟨t1, fun u h0 hu => ?_, fun u B e hb => ?_⟩
  · have := t2 u h0 (by have := h.1; omega)
    rw [h.2.1 u h0 hu] at this
    exact this
  · obtain ⟨⟨w1, w2⟩, w3, _⟩ := hW u B e hb
    have := t3 u B e (h.2.2.1 u B e hb)
    rw [h.2.1 u w1 w2, vx_val_le h w3] at this
    exact this
/-- the same for the elder unknowns -/
def vx_ag (n : Int) (th th' : Int → rf_N) : Prop := ∀ u, 0 ≤ u → u < n → th' u = th u
theorem vx_val_ag {S : vx_S} {A : rf_N} {th th' : Int → rf_N} {AR : Nat → List Int} {e : Int → Int} {L : Int} (h : vx_ag S.1 th th') (hA : vx_in S A) : vx_val th' AR A e L = vx_val th AR A e L := vx_val_th (fun m hm => h m (hA.1 m hm).1 (hA.1 m hm).2) (fun _ _ => rfl)
theorem vx_sb_leaf {a : rf_N} (h : vx_on a) : vx_sb a .leaf = a := by
  obtain ⟨k, h, F, rfl⟩ := h
  rfl
/-- an unknown gets a new one in its place, with fewer ARGs: each solution that does without the others stays one -/
theorem vx_nar {S T : vx_S} {th : Int → rf_N} {u : Int} {j : Nat} {F : rf_N} {eu : Int → Int} {zs ks : List Int} (hW : vx_W S) (hle : vx_le S T) (hS : vx_So S th) (hu : 0 ≤ u ∧ u < S.1) (h1 : T.1 = S.1 + 1) (ha : T.2.2.1 S.1 = (ks.length : Int)) (hb : ∀ v, T.2.2.2.1 v = if v = u then some (rf_n j 3 S.1 F .leaf, eu) else S.2.2.2.1 v) (hz : T.2.2.2.2 j = zs) (hk : zs.map eu = ks) (hn : ks.Nodup) (hr : ∀ k ∈ ks, 0 ≤ k ∧ k < S.2.2.1 u) (hus : ∀ v, vx_oc v (th u) → v < S.2.2.1 u → v ∈ ks) : ∃ th', vx_So T th' ∧ vx_ag S.1 th th' := by
  obtain ⟨s1, s2, s3⟩ := hS
  have su := s2 u hu.1 hu.2
  have eu' := hle.2.1 u hu.1 hu.2
  refine ⟨fun m => if m = S.1 then vx_re (fun v => if v < S.2.2.1 u then vx_ii ks v else (ks.length : Int) + (v - S.2.2.1 u)) (th u) else th m, ?_, fun m _ hm => if_neg (by omega)⟩
  have hg : vx_gd (fun m => if m = S.1 then vx_re (fun v => if v < S.2.2.1 u then vx_ii ks v else (ks.length : Int) + (v - S.2.2.1 u)) (th u) else th m) := fun m => by
    try dsimp only
    by_cases c : m = S.1
    · rw [if_pos c]
      refine ⟨vx_re_on (s1 u).1, fun v hv => ?_⟩
      obtain ⟨w, w1, w2⟩ := vx_oc_re.mp hv
      by_cases cw : w < S.2.2.1 u
      · rw [if_pos cw] at w2
        have := vx_ii_0 ks w
        omega
      · rw [if_neg cw] at w2
        omega
    · rw [if_neg c]
      exact s1 m
  have hag : vx_ag S.1 th (fun m => if m = S.1 then vx_re (fun v => if v < S.2.2.1 u then vx_ii ks v else (ks.length : Int) + (v - S.2.2.1 u)) (th u) else th m) := fun m _ hm => if_neg (by omega)
  refine ⟨hg, fun v v0 hv => ?_, fun v B e hB => ?_⟩
  · dsimp only
    by_cases c : v = S.1
    · rw [if_pos c, c, ha]
      have := vx_sc_re (ρ := fun v => if v < S.2.2.1 u then vx_ii ks v else (ks.length : Int) + (v - S.2.2.1 u)) (a := S.2.2.1 u) (L := (ks.length : Int)) (by omega) (Int.le_refl _) su (fun v hv hl => by
        try dsimp only
        rw [if_pos hl]
        exact ⟨vx_ii_0 _ _, vx_ii_lt (hus v hv hl)⟩) (fun v hv => if_neg (by omega))
      rw [show (ks.length : Int) + (S.2.2.1 u - S.2.2.1 u) = (ks.length : Int) by omega] at this
      exact this
    · rw [if_neg c, hle.2.1 v v0 (by omega)]
      exact s2 v v0 (by omega)
  · rw [hb v] at hB
    by_cases c : v = u
    · rw [if_pos c] at hB
      obtain ⟨rfl, rfl⟩ := Prod.mk.inj (Option.some.inj hB)
      rw [c, eu', hag u hu.1 hu.2]
      rw [vx_val_in, if_neg (by show ¬ ((3 : Int) = 0); decide), if_pos rfl, hz, hk]
      try dsimp only
      rw [if_pos rfl, vx_re_re]
      have e1 : vx_val (fun m => if m = S.1 then vx_re (fun v => if v < S.2.2.1 u then vx_ii ks v else (ks.length : Int) + (v - S.2.2.1 u)) (th u) else th m) T.2.2.2.2 .leaf eu (S.2.2.1 u) = .leaf := rfl
      rw [e1, vx_sb_leaf (vx_re_on (s1 u).1)]
      refine (vx_re_id su (fun w hw => ?_)).symm
      have w0 := (s1 u).2 w hw
      try dsimp only
      unfold vx_ix
      by_cases cw : w < S.2.2.1 u
      · rw [if_pos cw]
        have hm := hus w hw cw
        have l1 := vx_ii_lt hm
        rw [if_pos l1, vx_getD (vx_ii_get hm)]
      · rw [if_neg cw, if_neg (by omega)]
        omega
    · rw [if_neg c] at hB
      obtain ⟨⟨w1, w2⟩, w3, _⟩ := hW v B e hB
      rw [hag v w1 w2, hle.2.1 v w1 w2, vx_val_ag hag w3, vx_val_le hle w3]
      exact s3 v B e hB
