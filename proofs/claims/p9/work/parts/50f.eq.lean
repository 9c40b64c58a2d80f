/-! ===== when two values are the same: taken apart ===== -/
theorem vx_val_1 {th : Int → rf_N} {AR : Nat → List Int} (hg : ∀ m, vx_on (th m)) (j : Nat) (q : Int × Int) (u : Unit) (F X : rf_N) (e : Int → Int) (L : Int) : vx_val th AR (.inner j q u F X) e L = vx_sb (vx_val th AR (.inner j q u F .leaf) e L) (vx_val th AR X e L) := by
  have e0 : vx_val th AR .leaf e L = .leaf := rfl
  rw [vx_val_in, vx_val_in, e0]
  by_cases h0 : q.1 = 0
  · rw [if_pos h0, if_pos h0]
    rfl
  · rw [if_neg h0, if_neg h0]
    by_cases h3 : q.1 = 3
    · rw [if_pos h3, if_pos h3, vx_sb_leaf (vx_re_on (hg _))]
    · rw [if_neg h3, if_neg h3]
      rfl
theorem vx_val_one {th : Int → rf_N} {AR : Nat → List Int} (hg : ∀ m, vx_on (th m)) (j : Nat) (q : Int × Int) (u : Unit) (F : rf_N) (e : Int → Int) (L : Int) : vx_on (vx_val th AR (.inner j q u F .leaf) e L) := vx_val_on hg (A := .inner j q u F .leaf) (fun z => by cases z)
/-- two \ -/
theorem vx_eq_lam {th : Int → rf_N} {AR : Nat → List Int} {j j' : Nat} {x y L : Int} {F F' : rf_N} {e d : Int → Int} : vx_val th AR (rf_n j 0 x F .leaf) e L = vx_val th AR (rf_n j' 0 y F' .leaf) d L ↔ vx_val th AR F (vx_up e x L) (L + 1) = vx_val th AR F' (vx_up d y L) (L + 1) := by
  rw [vx_val_in, vx_val_in, if_pos rfl, if_pos rfl]
  constructor
  · intro h
    exact (vx_n_eq h).2.2.1
  · intro h
    rw [h]
    rfl
/-- two heads with ARGs -/
theorem vx_eq_rig {th : Int → rf_N} {AR : Nat → List Int} {j j' : Nat} {k h k' h' L : Int} {F F' : rf_N} {e d : Int → Int} (h0 : k ≠ 0) (h3 : k ≠ 3) (h0' : k' ≠ 0) (h3' : k' ≠ 3) : vx_val th AR (rf_n j k h F .leaf) e L = vx_val th AR (rf_n j' k' h' F' .leaf) d L ↔ k = k' ∧ (if k = 2 then e h else h) = (if k' = 2 then d h' else h') ∧ vx_val th AR F e L = vx_val th AR F' d L := by
  rw [vx_val_in, vx_val_in, if_neg h0, if_neg h3, if_neg h0', if_neg h3']
  constructor
  · intro z
    obtain ⟨z1, z2, z3, _⟩ := vx_n_eq z
    exact ⟨z1, z2, z3⟩
  · rintro ⟨z1, z2, z3⟩
    have z2' : (if (k, h).1 = 2 then e (k, h).2 else (k, h).2) = (if (k', h').1 = 2 then d (k', h').2 else (k', h').2) := z2
    rw [z2', z3]
    show rf_n 0 k _ _ _ = rf_n 0 k' _ _ _
    rw [z1]
    rfl
/-- rows: one by one -/
theorem vx_eq_row {th : Int → rf_N} {AR : Nat → List Int} (hg : ∀ m, vx_on (th m)) {e d : Int → Int} {L : Int} : ∀ {F F' : rf_N}, vx_val th AR F e L = vx_val th AR F' d L ↔ (vx_el F).length = (vx_el F').length ∧ ∀ (i : Nat) A B, (vx_el F)[i]? = some A → (vx_el F')[i]? = some B → vx_val th AR A e L = vx_val th AR B d L
  | .leaf, .leaf => ⟨fun _ => ⟨rfl, fun i A B h => by simp [vx_el] at h⟩, fun _ => rfl⟩
  | .leaf, .inner j q u F X => by
    constructor
    · intro h
      rw [vx_val_1 hg] at h
      obtain ⟨k, hh, F', e'⟩ := vx_val_one hg (AR := AR) j q u F d L
      rw [e'] at h
      cases h
    · intro h
      have : 0 = (vx_el X).length + 1 := h.1
      omega
  | .inner j q u F X, .leaf => by
    constructor
    · intro h
      rw [vx_val_1 hg] at h
      obtain ⟨k, hh, F', e'⟩ := vx_val_one hg (AR := AR) j q u F e L
      rw [e'] at h
      cases h
    · intro h
      have : (vx_el X).length + 1 = 0 := h.1
      omega
  | .inner j q u F X, .inner j' q' u' F' X' => by
    have ih := vx_eq_row hg (AR := AR) (e := e) (d := d) (L := L) (F := X) (F' := X')
    have l1 : vx_el (.inner j q u F X) = .inner j q () F .leaf :: vx_el X := rfl
    have l2 : vx_el (.inner j' q' u' F' X') = .inner j' q' () F' .leaf :: vx_el X' := rfl
    rw [vx_val_1 hg j q, vx_val_1 hg j' q', l1, l2]
    constructor
    · intro h
      obtain ⟨h1, h2⟩ := vx_sb_on (vx_val_one hg j q u F e L) (vx_val_one hg j' q' u' F' d L) h
      obtain ⟨h3, h4⟩ := ih.mp h2
      refine ⟨by rw [List.length_cons, List.length_cons, h3], fun i A B hA hB => ?_⟩
      cases i with
      | zero =>
        rw [List.getElem?_cons_zero] at hA hB
        rw [← Option.some.inj hA, ← Option.some.inj hB]
        exact h1
      | succ i =>
        rw [List.getElem?_cons_succ] at hA hB
        exact h4 i A B hA hB
    · rintro ⟨h1, h2⟩
      rw [List.length_cons, List.length_cons] at h1
      have a1 := h2 0 _ _ (List.getElem?_cons_zero) (List.getElem?_cons_zero)
      have a2 := ih.mpr ⟨by omega, fun i A B hA hB => h2 (i + 1) A B (by rw [List.getElem?_cons_succ]; exact hA) (by rw [List.getElem?_cons_succ]; exact hB)⟩
      have a1' : vx_val th AR (.inner j q u F .leaf) e L = vx_val th AR (.inner j' q' u' F' .leaf) d L := a1
      rw [a1', a2]
/-- a call: what comes of it -/
theorem vx_call {th : Int → rf_N} {AR : Nat → List Int} (hg : ∀ m, vx_on (th m)) {j : Nat} {m L : Int} {F : rf_N} {e : Int → Int} : vx_val th AR (rf_n j 3 m F .leaf) e L = vx_re (vx_ix ((AR j).map e) L) (th m) := by
  have e0 : vx_val th AR .leaf e L = .leaf := rfl
  rw [vx_val_in, if_neg vx_30, if_pos rfl, e0, vx_sb_leaf (vx_re_on (hg _))]
/-- into the body of an unknown -/
theorem vx_call_body {S : vx_S} {th : Int → rf_N} (hS : vx_So S th) {j : Nat} {m L : Int} {F B : rf_N} {e em e' : Int → Int} (hb : S.2.2.2.1 m = some (B, em)) (ha : ((S.2.2.2.2 j).length : Int) = S.2.2.1 m) (hlt : ∀ z, em z < S.2.2.1 m) (hP : ∀ z, 0 ≤ em z → e' z = ((S.2.2.2.2 j).map e).getD (em z).toNat (-1)) : vx_val th S.2.2.2.2 (rf_n j 3 m F .leaf) e L = vx_val th S.2.2.2.2 B e' L := by
  rw [vx_call (fun m => (hS.1 m).1)]
  have hl : (((S.2.2.2.2 j).map e).length : Int) = S.2.2.1 m := by rw [List.length_map, ha]
  exact vx_enter hS.1 (by rw [hl]; exact hS.2.2 m B em hb) (fun z => by rw [hl]; exact hlt z) hP
/-- what stands strictly inside is smaller: an unknown that must be what it stands in is none -/
theorem vx_zz_lt {th : Int → rf_N} {j : Nat} {k h : Int} {F A : rf_N} (h3 : k ≠ 3) (hA : A ∈ vx_el F) : vx_zz th A < vx_zz th (rf_n j k h F .leaf) := by
  have := vx_zz_el (th := th) hA
  rw [vx_zz_in, if_neg h3]
  omega
theorem vx_zz_lam {th : Int → rf_N} {j : Nat} {x : Int} {F : rf_N} : vx_zz th F < vx_zz th (rf_n j 0 x F .leaf) := by
  rw [vx_zz_in, if_neg vx_03]
  omega
theorem vx_zz_call {th : Int → rf_N} {j : Nat} {m : Int} {F : rf_N} : vx_zz th (rf_n j 3 m F .leaf) = vx_sz (th m) := by
  rw [vx_zz_in, if_pos rfl]
  rfl
theorem vx_zz_body {S : vx_S} {th : Int → rf_N} (hS : vx_So S th) {m : Int} {B : rf_N} {em : Int → Int} (hb : S.2.2.2.1 m = some (B, em)) : vx_sz (th m) = vx_zz th B := by
  rw [hS.2.2 m B em hb, vx_sz_val (fun m => (hS.1 m).1)]
