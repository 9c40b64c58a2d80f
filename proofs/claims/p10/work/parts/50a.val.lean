/-! ===== terms with values for unknowns, pure ===== -/
/-- what stands next is X -/
def vx_sb : rf_N → rf_N → rf_N
  | .leaf, X => X
  | .inner j q _ F _, X => .inner j q () F X
/-- it alone -/
def vx_1 : rf_N → rf_N
  | .leaf => .leaf
  | .inner j q _ F _ => .inner j q () F .leaf
/-- variables named otherwise -/
def vx_re (ρ : Int → Int) : rf_N → rf_N
  | .leaf => .leaf
  | .inner _ q _ F X => rf_n 0 q.1 (if q.1 = 2 then ρ q.2 else q.2) (vx_re ρ F) (vx_re ρ X)
/-- the ARGs xs for the first of them, what is bound inside from L on -/
def vx_ix (xs : List Int) (L v : Int) : Int := if v < (xs.length : Int) then xs.getD v.toNat (-1) else L + (v - (xs.length : Int))
def vx_up (e : Int → Int) (x L v : Int) : Int := if v = x then L else e v
/-- the value: th the unknowns', AR their ARGs by node, e the variables', L how many are bound around -/
def vx_val (th : Int → rf_N) (AR : Nat → List Int) : rf_N → (Int → Int) → Int → rf_N
  | .leaf, _, _ => .leaf
  | .inner j q _ F X, e, L => if q.1 = 0 then rf_n 0 0 0 (vx_val th AR F (vx_up e q.2 L) (L + 1)) (vx_val th AR X e L) else if q.1 = 3 then vx_sb (vx_re (vx_ix ((AR j).map e) L) (th q.2)) (vx_val th AR X e L) else rf_n 0 q.1 (if q.1 = 2 then e q.2 else q.2) (vx_val th AR F e L) (vx_val th AR X e L)
/-- well made, variables below b but for what is bound inside; no unknown in it -/
def vx_sc : rf_N → Int → Prop
  | .leaf, _ => True
  | .inner j q _ F X, b => j = 0 ∧ ((q.1 = 0 ∧ q.2 = 0 ∧ vx_sc F (b + 1)) ∨ ((q.1 = 1 ∨ (q.1 = 2 ∧ 0 ≤ q.2 ∧ q.2 < b)) ∧ vx_sc F b)) ∧ vx_sc X b
/-- the variable v stands in it -/
def vx_oc (v : Int) : rf_N → Prop
  | .leaf => False
  | .inner _ q _ F X => (q.1 = 2 ∧ q.2 = v) ∨ vx_oc v F ∨ vx_oc v X
def vx_sz : rf_N → Nat
  | .leaf => 0
  | .inner _ _ _ F X => 1 + vx_sz F + vx_sz X
/-- one term -/
def vx_on (v : rf_N) : Prop := ∃ k h F, v = rf_n 0 k h F .leaf
theorem vx_re_in (ρ : Int → Int) (j : Nat) (q : Int × Int) (u : Unit) (F X : rf_N) : vx_re ρ (.inner j q u F X) = rf_n 0 q.1 (if q.1 = 2 then ρ q.2 else q.2) (vx_re ρ F) (vx_re ρ X) := rfl
theorem vx_val_in (th : Int → rf_N) (AR : Nat → List Int) (j : Nat) (q : Int × Int) (u : Unit) (F X : rf_N) (e : Int → Int) (L : Int) : vx_val th AR (.inner j q u F X) e L = if q.1 = 0 then rf_n 0 0 0 (vx_val th AR F (vx_up e q.2 L) (L + 1)) (vx_val th AR X e L) else if q.1 = 3 then vx_sb (vx_re (vx_ix ((AR j).map e) L) (th q.2)) (vx_val th AR X e L) else rf_n 0 q.1 (if q.1 = 2 then e q.2 else q.2) (vx_val th AR F e L) (vx_val th AR X e L) := rfl
theorem vx_re_re (ρ ρ' : Int → Int) : ∀ A : rf_N, vx_re ρ (vx_re ρ' A) = vx_re (fun v => ρ (ρ' v)) A
  | .leaf => rfl
  | .inner j q u F X => by
    have hF := vx_re_re ρ ρ' F
    have hX := vx_re_re ρ ρ' X
    have hh : (if q.1 = 2 then ρ (if q.1 = 2 then ρ' q.2 else q.2) else (if q.1 = 2 then ρ' q.2 else q.2)) = (if q.1 = 2 then ρ (ρ' q.2) else q.2) := by
      by_cases h : q.1 = 2
      · simp only [h, if_true]
      · simp only [h, if_false]
    rw [vx_re_in, vx_re_in, vx_re_in, hF, hX]
    dsimp only
    rw [hh]
theorem vx_n_eq {j : Nat} {k h k' h' : Int} {F F' X X' : rf_N} (e : rf_n j k h F X = rf_n j k' h' F' X') : k = k' ∧ h = h' ∧ F = F' ∧ X = X' := by
  cases e
  exact ⟨rfl, rfl, rfl, rfl⟩
theorem vx_re_eq {ρ ρ' : Int → Int} : ∀ {A : rf_N}, vx_re ρ A = vx_re ρ' A ↔ ∀ v, vx_oc v A → ρ v = ρ' v
  | .leaf => ⟨fun _ _ h => h.elim, fun _ => rfl⟩
  | .inner j q u F X => by
    have hF := vx_re_eq (ρ := ρ) (ρ' := ρ') (A := F)
    have hX := vx_re_eq (ρ := ρ) (ρ' := ρ') (A := X)
    constructor
    · intro h v hv
      rw [vx_re_in, vx_re_in] at h
      obtain ⟨_, h2, h3, h4⟩ := vx_n_eq h
      rcases hv with ⟨q1, q2⟩ | hv | hv
      · rw [if_pos q1, if_pos q1] at h2
        rw [← q2]
        exact h2
      · exact hF.mp h3 v hv
      · exact hX.mp h4 v hv
    · intro h
      have h3 := hF.mpr (fun v hv => h v (Or.inr (Or.inl hv)))
      have h4 := hX.mpr (fun v hv => h v (Or.inr (Or.inr hv)))
      rw [vx_re_in, vx_re_in, h3, h4]
      by_cases h2 : q.1 = 2
      · rw [if_pos h2, if_pos h2, h q.2 (Or.inl ⟨h2, rfl⟩)]
      · rw [if_neg h2, if_neg h2]
theorem vx_oc_re {ρ : Int → Int} {w : Int} : ∀ {A : rf_N}, vx_oc w (vx_re ρ A) ↔ ∃ v, vx_oc v A ∧ ρ v = w
  | .leaf => ⟨fun h => h.elim, fun ⟨_, h, _⟩ => h.elim⟩
  | .inner j q u F X => by
    have hF := vx_oc_re (ρ := ρ) (w := w) (A := F)
    have hX := vx_oc_re (ρ := ρ) (w := w) (A := X)
    constructor
    · rintro (⟨h1, h2⟩ | h | h)
      · have h1' : q.1 = 2 := h1
        have h2' : (if q.1 = 2 then ρ q.2 else q.2) = w := h2
        rw [if_pos h1'] at h2'
        exact ⟨q.2, Or.inl ⟨h1', rfl⟩, h2'⟩
      · obtain ⟨v, h1, h2⟩ := hF.mp h
        exact ⟨v, Or.inr (Or.inl h1), h2⟩
      · obtain ⟨v, h1, h2⟩ := hX.mp h
        exact ⟨v, Or.inr (Or.inr h1), h2⟩
    · rintro ⟨v, ⟨h1, h2⟩ | h | h, hw⟩
      · refine Or.inl ⟨h1, ?_⟩
        show (if q.1 = 2 then ρ q.2 else q.2) = w
        rw [if_pos h1, h2]
        exact hw
      · exact Or.inr (Or.inl (hF.mpr ⟨v, h, hw⟩))
      · exact Or.inr (Or.inr (hX.mpr ⟨v, h, hw⟩))
theorem vx_sz_re {ρ : Int → Int} : ∀ A : rf_N, vx_sz (vx_re ρ A) = vx_sz A
  | .leaf => rfl
  | .inner j q u F X => by
    show 1 + vx_sz (vx_re ρ F) + vx_sz (vx_re ρ X) = 1 + vx_sz F + vx_sz X
    rw [vx_sz_re F, vx_sz_re X]
theorem vx_re_sb {ρ : Int → Int} {X : rf_N} : ∀ {a : rf_N}, vx_re ρ (vx_sb a X) = vx_sb (vx_re ρ a) (vx_re ρ X)
  | .leaf => rfl
  | .inner _ _ _ _ _ => rfl
theorem vx_re_on {ρ : Int → Int} {a : rf_N} (h : vx_on a) : vx_on (vx_re ρ a) := by
  obtain ⟨k, h, F, rfl⟩ := h
  exact ⟨k, _, _, rfl⟩
theorem vx_sb_on {a b X Y : rf_N} (ha : vx_on a) (hb : vx_on b) (h : vx_sb a X = vx_sb b Y) : a = b ∧ X = Y := by
  obtain ⟨k, h1, F, rfl⟩ := ha
  obtain ⟨k', h1', F', rfl⟩ := hb
  have h' : rf_n 0 k h1 F X = rf_n 0 k' h1' F' Y := h
  obtain ⟨e1, e2, e3, e4⟩ := vx_n_eq h'
  subst e1 e2 e3
  exact ⟨rfl, e4⟩
theorem vx_re_id {ρ : Int → Int} : ∀ {A : rf_N} {b : Int}, vx_sc A b → (∀ v, vx_oc v A → ρ v = v) → vx_re ρ A = A
  | .leaf, _, _, _ => rfl
  | .inner j q u F X, b, hs, h => by
    obtain ⟨h0, hs, hX⟩ := hs
    subst h0
    have e4 := vx_re_id hX (fun v hv => h v (Or.inr (Or.inr hv)))
    have e3 : vx_re ρ F = F := by
      rcases hs with ⟨_, _, hF⟩ | ⟨_, hF⟩
      · exact vx_re_id hF (fun v hv => h v (Or.inr (Or.inl hv)))
      · exact vx_re_id hF (fun v hv => h v (Or.inr (Or.inl hv)))
    rw [vx_re_in, e3, e4]
    by_cases h2 : q.1 = 2
    · rw [if_pos h2, h q.2 (Or.inl ⟨h2, rfl⟩)]
    · rw [if_neg h2]
theorem vx_sc_oc {v : Int} : ∀ {A : rf_N} {b : Int}, vx_sc A b → vx_oc v A → 0 ≤ v
  | .leaf, _, _, h => h.elim
  | .inner j q u F X, b, hs, h => by
    obtain ⟨_, hs, hX⟩ := hs
    rcases h with ⟨h1, h2⟩ | h | h
    · rcases hs with ⟨z, _⟩ | ⟨z | ⟨_, z, _⟩, _⟩
      · omega
      · omega
      · omega
    · rcases hs with ⟨_, _, z⟩ | ⟨_, z⟩
      · exact vx_sc_oc z h
      · exact vx_sc_oc z h
    · exact vx_sc_oc hX h
theorem vx_gD {xs : List Int} {i : Nat} (h : i < xs.length) : xs.getD i (-1) = xs[i] := by
  rw [List.getD_eq_getElem?_getD, List.getElem?_eq_getElem h]
  rfl
theorem vx_getD_map (f : Int → Int) (xs : List Int) (i : Nat) (h : i < xs.length) : (xs.map f).getD i (-1) = f (xs.getD i (-1)) := by
  rw [vx_gD (by rw [List.length_map]; exact h), List.getElem_map, vx_gD h]
/-- unknowns' values are single terms, no negative numbers in them -/
def vx_gd (th : Int → rf_N) : Prop := ∀ u, vx_on (th u) ∧ ∀ v, vx_oc v (th u) → 0 ≤ v
theorem vx_ix_re {ρ : Int → Int} {xs : List Int} {L L' : Int} (hL : ∀ i : Int, 0 ≤ i → ρ (L + i) = L' + i) {v : Int} (hv : 0 ≤ v) : ρ (vx_ix xs L v) = vx_ix (xs.map ρ) L' v := by
  unfold vx_ix
  rw [List.length_map]
  by_cases h : v < (xs.length : Int)
  · rw [if_pos h, if_pos h, vx_getD_map ρ xs v.toNat (by omega)]
  · rw [if_neg h, if_neg h]
    exact hL _ (by omega)
theorem vx_val_re {th : Int → rf_N} {AR : Nat → List Int} (hg : vx_gd th) {ρ : Int → Int} : ∀ {A : rf_N} {e : Int → Int} {L L' : Int}, (∀ i : Int, 0 ≤ i → ρ (L + i) = L' + i) → vx_re ρ (vx_val th AR A e L) = vx_val th AR A (fun v => ρ (e v)) L'
  | .leaf, _, _, _, _ => rfl
  | .inner j q u F X, e, L, L', hL => by
    have hX := vx_val_re hg (AR := AR) (A := X) (e := e) hL
    rw [vx_val_in, vx_val_in]
    by_cases h0 : q.1 = 0
    · rw [if_pos h0, if_pos h0]
      have hF := vx_val_re hg (ρ := ρ) (AR := AR) (A := F) (e := vx_up e q.2 L) (L := L + 1) (L' := L' + 1) (fun i hi => by
        have := hL (1 + i) (by omega)
        rw [show L + 1 + i = L + (1 + i) by omega, this]
        omega)
      have eu : (fun v => ρ (vx_up e q.2 L v)) = vx_up (fun v => ρ (e v)) q.2 L' := by
        funext v
        unfold vx_up
        by_cases hv : v = q.2
        · rw [if_pos hv, if_pos hv]
          have := hL 0 (by omega)
          rw [Int.add_zero, Int.add_zero] at this
          exact this
        · rw [if_neg hv, if_neg hv]
      rw [eu] at hF
      rw [← hF, ← hX]
      rfl
    · rw [if_neg h0, if_neg h0]
      by_cases h3 : q.1 = 3
      · rw [if_pos h3, if_pos h3, vx_re_sb, vx_re_re, hX]
        have : vx_re (fun v => ρ (vx_ix ((AR j).map e) L v)) (th q.2) = vx_re (vx_ix ((AR j).map (fun v => ρ (e v))) L') (th q.2) := vx_re_eq.mpr (fun v hv => by
          rw [vx_ix_re hL ((hg q.2).2 v hv), List.map_map]
          rfl)
        rw [this]
      · rw [if_neg h3, if_neg h3]
        have hF := vx_val_re hg (AR := AR) (A := F) (e := e) hL
        rw [← hF, ← hX]
        show rf_n 0 q.1 _ _ _ = _
        by_cases h2 : q.1 = 2
        · rw [if_pos h2, if_pos h2, if_pos h2]
        · rw [if_neg h2, if_neg h2, if_neg h2]
/-- the variable z stands free in it; U: which ARGs an unknown uses -/
def vx_fv (U : Int → Int → Prop) (AR : Nat → List Int) (z : Int) : rf_N → Prop
  | .leaf => False
  | .inner j q _ F X => ((q.1 = 0 ∧ z ≠ q.2 ∧ vx_fv U AR z F) ∨ (q.1 = 3 ∧ ∃ i : Nat, (AR j)[i]? = some z ∧ U q.2 i) ∨ (q.1 ≠ 0 ∧ q.1 ≠ 3 ∧ ((q.1 = 2 ∧ z = q.2) ∨ vx_fv U AR z F))) ∨ vx_fv U AR z X
def vx_us (th : Int → rf_N) (m i : Int) : Prop := vx_oc i (th m)
theorem vx_val_cg {th : Int → rf_N} {AR : Nat → List Int} (hg : vx_gd th) : ∀ {A : rf_N} {e e' : Int → Int} {L : Int}, (∀ z, vx_fv (vx_us th) AR z A → e z = e' z) → vx_val th AR A e L = vx_val th AR A e' L
  | .leaf, _, _, _, _ => rfl
  | .inner j q u F X, e, e', L, h => by
    have hX := vx_val_cg hg (AR := AR) (A := X) (e := e) (e' := e') (L := L) (fun z hz => h z (Or.inr hz))
    rw [vx_val_in, vx_val_in, hX]
    by_cases h0 : q.1 = 0
    · rw [if_pos h0, if_pos h0]
      have hF := vx_val_cg hg (AR := AR) (A := F) (e := vx_up e q.2 L) (e' := vx_up e' q.2 L) (L := L + 1) (fun z hz => by
        unfold vx_up
        by_cases hv : z = q.2
        · rw [if_pos hv, if_pos hv]
        · rw [if_neg hv, if_neg hv]
          exact h z (Or.inl (Or.inl ⟨h0, hv, hz⟩)))
      rw [hF]
    · rw [if_neg h0, if_neg h0]
      by_cases h3 : q.1 = 3
      · rw [if_pos h3, if_pos h3]
        have : vx_re (vx_ix ((AR j).map e) L) (th q.2) = vx_re (vx_ix ((AR j).map e') L) (th q.2) := vx_re_eq.mpr (fun v hv => by
          have v0 := (hg q.2).2 v hv
          unfold vx_ix
          rw [List.length_map, List.length_map]
          by_cases hl : v < ((AR j).length : Int)
          · rw [if_pos hl, if_pos hl, vx_getD_map e _ _ (by omega), vx_getD_map e' _ _ (by omega)]
            have hi : v.toNat < (AR j).length := by omega
            rw [vx_gD hi]
            refine h _ (Or.inl (Or.inr (Or.inl ⟨h3, v.toNat, List.getElem?_eq_getElem hi, ?_⟩)))
            show vx_oc ((v.toNat : Nat) : Int) (th q.2)
            rw [Int.toNat_of_nonneg v0]
            exact hv
          · rw [if_neg hl, if_neg hl])
        rw [this]
      · rw [if_neg h3, if_neg h3]
        have hF := vx_val_cg hg (AR := AR) (A := F) (e := e) (e' := e') (L := L) (fun z hz => h z (Or.inl (Or.inr (Or.inr ⟨h0, h3, Or.inr hz⟩))))
        rw [hF]
        by_cases h2 : q.1 = 2
        · rw [if_pos h2, if_pos h2, h q.2 (Or.inl (Or.inr (Or.inr ⟨h0, h3, Or.inl ⟨h2, rfl⟩⟩)))]
        · rw [if_neg h2, if_neg h2]
theorem vx_oc_sb {w : Int} {X : rf_N} : ∀ {a : rf_N}, vx_on a → (vx_oc w (vx_sb a X) ↔ vx_oc w a ∨ vx_oc w X) := by
  rintro a ⟨k, h, F, rfl⟩
  constructor
  · rintro (h | h | h)
    · exact Or.inl (Or.inl h)
    · exact Or.inl (Or.inr (Or.inl h))
    · exact Or.inr h
  · rintro ((h | h | h) | h)
    · exact Or.inl h
    · exact Or.inr (Or.inl h)
    · exact h.elim
    · exact Or.inr (Or.inr h)
theorem vx_fv_oc {th : Int → rf_N} {AR : Nat → List Int} (hg : vx_gd th) {z : Int} : ∀ {A : rf_N} {e : Int → Int} {L : Int}, vx_fv (vx_us th) AR z A → vx_oc (e z) (vx_val th AR A e L)
  | .leaf, _, _, h => h.elim
  | .inner j q u F X, e, L, h => by
    rw [vx_val_in]
    by_cases h0 : q.1 = 0
    · rw [if_pos h0]
      rcases h with (⟨_, h1, h2⟩ | ⟨h1, _⟩ | ⟨h1, _⟩) | h
      · have := vx_fv_oc hg (AR := AR) (A := F) (e := vx_up e q.2 L) (L := L + 1) h2
        unfold vx_up at this
        rw [if_neg h1] at this
        exact Or.inr (Or.inl this)
      · omega
      · omega
      · exact Or.inr (Or.inr (vx_fv_oc hg h))
    · rw [if_neg h0]
      by_cases h3 : q.1 = 3
      · rw [if_pos h3, vx_oc_sb (vx_re_on (hg q.2).1)]
        rcases h with (⟨h1, _⟩ | ⟨_, i, h1, h2⟩ | ⟨_, h1, _⟩) | h
        · omega
        · left
          rw [vx_oc_re]
          obtain ⟨hi, he⟩ := List.getElem?_eq_some_iff.mp h1
          refine ⟨(i : Int), h2, ?_⟩
          unfold vx_ix
          rw [List.length_map, if_pos (by omega), vx_getD_map e _ _ (by omega), vx_gD (by omega)]
          congr 1
        · omega
        · exact Or.inr (vx_fv_oc hg h)
      · rw [if_neg h3]
        rcases h with (⟨h1, _⟩ | ⟨h1, _⟩ | ⟨_, _, ⟨h1, h2⟩ | h1⟩) | h
        · omega
        · omega
        · refine Or.inl ⟨h1, ?_⟩
          show (if q.1 = 2 then e q.2 else q.2) = e z
          rw [if_pos h1, h2]
        · exact Or.inr (Or.inl (vx_fv_oc hg h1))
        · exact Or.inr (Or.inr (vx_fv_oc hg h))
theorem vx_oc_fv {th : Int → rf_N} {AR : Nat → List Int} (hg : vx_gd th) {w : Int} : ∀ {A : rf_N} {e : Int → Int} {L : Int}, vx_oc w (vx_val th AR A e L) → (∃ z, vx_fv (vx_us th) AR z A ∧ e z = w) ∨ L ≤ w
  | .leaf, _, _, h => h.elim
  | .inner j q u F X, e, L, h => by
    have rX : vx_oc w (vx_val th AR X e L) → (∃ z, vx_fv (vx_us th) AR z (.inner j q u F X) ∧ e z = w) ∨ L ≤ w := fun h => by
      rcases vx_oc_fv hg h with ⟨z, h1, h2⟩ | h
      · exact Or.inl ⟨z, Or.inr h1, h2⟩
      · exact Or.inr h
    rw [vx_val_in] at h
    by_cases h0 : q.1 = 0
    · rw [if_pos h0] at h
      rcases h with ⟨h1, _⟩ | h | h
      · exact absurd h1 (by decide)
      · rcases vx_oc_fv hg h with ⟨z, h1, h2⟩ | h
        · unfold vx_up at h2
          by_cases hz : z = q.2
          · rw [if_pos hz] at h2
            exact Or.inr (by omega)
          · rw [if_neg hz] at h2
            exact Or.inl ⟨z, Or.inl (Or.inl ⟨h0, hz, h1⟩), h2⟩
        · exact Or.inr (by omega)
      · exact rX h
    · rw [if_neg h0] at h
      by_cases h3 : q.1 = 3
      · rw [if_pos h3, vx_oc_sb (vx_re_on (hg q.2).1)] at h
        rcases h with h | h
        · obtain ⟨v, h1, h2⟩ := vx_oc_re.mp h
          have v0 := (hg q.2).2 v h1
          unfold vx_ix at h2
          rw [List.length_map] at h2
          by_cases hl : v < ((AR j).length : Int)
          · rw [if_pos hl, vx_getD_map e _ _ (by omega)] at h2
            have hi : v.toNat < (AR j).length := by omega
            rw [vx_gD hi] at h2
            refine Or.inl ⟨_, Or.inl (Or.inr (Or.inl ⟨h3, v.toNat, List.getElem?_eq_getElem hi, ?_⟩)), h2⟩
            show vx_oc ((v.toNat : Nat) : Int) (th q.2)
            rw [Int.toNat_of_nonneg v0]
            exact h1
          · rw [if_neg hl] at h2
            exact Or.inr (by omega)
        · exact rX h
      · rw [if_neg h3] at h
        rcases h with ⟨h1, h2⟩ | h | h
        · have h1' : q.1 = 2 := h1
          have h2' : (if q.1 = 2 then e q.2 else q.2) = w := h2
          rw [if_pos h1'] at h2'
          exact Or.inl ⟨q.2, Or.inl (Or.inr (Or.inr ⟨h0, h3, Or.inl ⟨h1', rfl⟩⟩)), h2'⟩
        · rcases vx_oc_fv hg h with ⟨z, h1, h2⟩ | h
          · exact Or.inl ⟨z, Or.inl (Or.inr (Or.inr ⟨h0, h3, Or.inr h1⟩)), h2⟩
          · exact Or.inr h
        · exact rX h
