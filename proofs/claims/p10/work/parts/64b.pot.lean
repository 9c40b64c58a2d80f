/-! ===== the turns that a pair may still take ===== -/
theorem vw_cp {p q : Nat → Bool} : ∀ {l : List Nat}, (∀ x ∈ l, p x = true → q x = true) → l.countP p ≤ l.countP q
  | [], _ => Nat.le_refl _
  | x :: l, h => by
    have ih := vw_cp (l := l) (fun y hy => h y (List.mem_cons_of_mem _ hy))
    have hx := h x List.mem_cons_self
    rw [List.countP_cons, List.countP_cons]
    by_cases c : p x = true
    · rw [if_pos c, if_pos (hx c)]
      omega
    · rw [if_neg c]
      by_cases c' : q x = true
      · rw [if_pos c']
        omega
      · rw [if_neg c']
        omega
theorem vw_cp1 {p q : Nat → Bool} {x0 : Nat} (hp : p x0 = false) (hq : q x0 = true) : ∀ {l : List Nat}, (∀ x ∈ l, p x = true → q x = true) → x0 ∈ l → l.countP p + 1 ≤ l.countP q
  | [], _, h => absurd h List.not_mem_nil
  | x :: l, h, hm => by
    have hx := h x List.mem_cons_self
    have hl : ∀ y ∈ l, p y = true → q y = true := fun y hy => h y (List.mem_cons_of_mem _ hy)
    rw [List.countP_cons, List.countP_cons]
    by_cases e : x = x0
    · have ih := vw_cp hl
      rw [e, if_neg (by rw [hp]; decide), if_pos hq]
      omega
    · have ih := vw_cp1 hp hq hl (by
        rcases List.mem_cons.mp hm with q | q
        · exact absurd q.symm e
        · exact q)
      by_cases c : p x = true
      · rw [if_pos c, if_pos (hx c)]
        omega
      · rw [if_neg c]
        by_cases c' : q x = true
        · rw [if_pos c']
          omega
        · rw [if_neg c']
          omega
/-- how many of the first n unknowns are of size z at most -/
def vw_N (n : Nat) (th : Int → rf_N) (z : Nat) : Nat := (List.range n).countP (fun u : Nat => decide (vx_sz (th (u : Int)) ≤ z))
theorem vw_N_n {n : Nat} {th : Int → rf_N} {z : Nat} : vw_N n th z ≤ n := by
  have := List.countP_le_length (p := fun u : Nat => decide (vx_sz (th (u : Int)) ≤ z)) (l := List.range n)
  rw [List.length_range] at this
  exact this
theorem vw_N_mono {n : Nat} {th : Int → rf_N} {z z' : Nat} (h : z' ≤ z) : vw_N n th z' ≤ vw_N n th z := vw_cp (fun x _ hx => decide_eq_true (by have := of_decide_eq_true hx; omega))
theorem vw_N_lt {n : Nat} {th : Int → rf_N} {z z' : Nat} {u : Int} (u0 : 0 ≤ u) (un : u < (n : Int)) (hz : z' < z) (hu : vx_sz (th u) = z) : vw_N n th z' + 1 ≤ vw_N n th z := by
  have e : ((u.toNat : Nat) : Int) = u := Int.toNat_of_nonneg u0
  refine vw_cp1 (x0 := u.toNat) (decide_eq_false ?_) (decide_eq_true ?_) (fun x _ hx => decide_eq_true (by have := of_decide_eq_true hx; omega)) (List.mem_range.mpr (by omega))
  · rw [e]
    omega
  · rw [e]
    omega
theorem vw_N_lt2 {n : Nat} {th : Int → rf_N} {z z' : Nat} {u v : Int} (huv : u ≠ v) (u0 : 0 ≤ u) (un : u < (n : Int)) (v0 : 0 ≤ v) (vn : v < (n : Int)) (hz : z' < z) (hu : vx_sz (th u) = z) (hv : vx_sz (th v) = z) : vw_N n th z' + 2 ≤ vw_N n th z := by
  have e : ((u.toNat : Nat) : Int) = u := Int.toNat_of_nonneg u0
  have e' : ((v.toNat : Nat) : Int) = v := Int.toNat_of_nonneg v0
  have h1 : (List.range n).countP (fun x : Nat => decide (vx_sz (th (x : Int)) ≤ z')) + 1 ≤ (List.range n).countP (fun x : Nat => decide (vx_sz (th (x : Int)) ≤ z' ∨ x = u.toNat)) := by
    refine vw_cp1 (x0 := u.toNat) (decide_eq_false ?_) (decide_eq_true (Or.inr rfl)) (fun x _ hx => decide_eq_true (Or.inl (of_decide_eq_true hx))) (List.mem_range.mpr (by omega))
    rw [e]
    omega
  have h2 : (List.range n).countP (fun x : Nat => decide (vx_sz (th (x : Int)) ≤ z' ∨ x = u.toNat)) + 1 ≤ (List.range n).countP (fun x : Nat => decide (vx_sz (th (x : Int)) ≤ z)) := by
    refine vw_cp1 (x0 := v.toNat) (decide_eq_false ?_) (decide_eq_true ?_) (fun x _ hx => decide_eq_true ?_) (List.mem_range.mpr (by omega))
    · rw [e']
      omega
    · rw [e']
      omega
    · rcases of_decide_eq_true hx with q | q
      · omega
      · rw [q, e]
        omega
  unfold vw_N
  omega
/-- the unknown m is given the head C in the end -/
def vw_st (S : vx_S) (m : Int) (C : rf_N) : Prop := (∃ w B e, S.2.2.2.1 m = some (B, e) ∧ vw_wy S w B C) ∧ ∃ (j : Nat) (k h : Int) (F : rf_N), C = rf_n j k h F .leaf ∧ k ≠ 3
theorem vw_wy_fun {S : vx_S} {C C' : rf_N} (hC : ∃ (j : Nat) (k h : Int) (F : rf_N), C = rf_n j k h F .leaf ∧ k ≠ 3) (hC' : ∃ (j : Nat) (k h : Int) (F : rf_N), C' = rf_n j k h F .leaf ∧ k ≠ 3) : ∀ {w w' : List Int} {B : rf_N}, vw_wy S w B C → vw_wy S w' B C' → C = C'
  | [], [], B, h1, h2 => h1.symm.trans h2
  | [], m :: w', B, h1, ⟨j', F', B', e', q, _⟩ => by
    obtain ⟨j, k, h, F, e, n3⟩ := hC
    have h1' : B = C := h1
    rw [h1', e] at q
    injection q with _ q2
    exact absurd (Prod.mk.inj q2).1 n3
  | m :: w, [], B, ⟨j', F', B', e', q, _⟩, h2 => by
    obtain ⟨j, k, h, F, e, n3⟩ := hC'
    have h1' : B = C' := h2
    rw [h1', e] at q
    injection q with _ q2
    exact absurd (Prod.mk.inj q2).1 n3
  | m :: w, m' :: w', B, ⟨j, F, D, e, q, h1, h2⟩, ⟨j', F', D', e', q', h1', h2'⟩ => by
    rw [q] at q'
    injection q' with _ q2
    have em : m = m' := (Prod.mk.inj q2).2
    rw [← em, h1] at h1'
    have ed : D = D' := (Prod.mk.inj (Option.some.inj h1')).1
    rw [← ed] at h2'
    exact vw_wy_fun hC hC' h2 h2'
noncomputable def vw_bd (S : vx_S) (m : Int) : rf_N := @dite rf_N (∃ C, vw_st S m C) (Classical.propDecidable _) (fun h => Classical.choose h) (fun _ => .leaf)
theorem vw_bd_or (S : vx_S) (m : Int) : vw_bd S m = .leaf ∨ vw_st S m (vw_bd S m) := by
  unfold vw_bd
  by_cases h : ∃ C, vw_st S m C
  · rw [dif_pos h]
    exact Or.inr (Classical.choose_spec h)
  · rw [dif_neg h]
    exact Or.inl rfl
theorem vw_st_fun {S : vx_S} {m : Int} {C C' : rf_N} (h : vw_st S m C) (h' : vw_st S m C') : C = C' := by
  obtain ⟨⟨w, B, e, h1, h2⟩, h3⟩ := h
  obtain ⟨⟨w', B', e', h1', h2'⟩, h3'⟩ := h'
  rw [h1] at h1'
  have ed : B = B' := (Prod.mk.inj (Option.some.inj h1')).1
  rw [← ed] at h2'
  exact vw_wy_fun h3 h3' h2 h2'
theorem vw_bd_eq {S : vx_S} {m : Int} {C : rf_N} (h : vw_st S m C) : vw_bd S m = C := by
  have h' : vw_st S m (vw_bd S m) := by
    unfold vw_bd
    rw [dif_pos ⟨C, h⟩]
    exact Classical.choose_spec _
  exact vw_st_fun h' h
theorem vw_wy_le {S T : vx_S} (hle : vx_le S T) : ∀ {w : List Int} {A C : rf_N}, vw_wy S w A C → vw_wy T w A C
  | [], _, _, h => h
  | m :: w, A, C, ⟨j, F, B, e, h1, h2, h3⟩ => ⟨j, F, B, e, h1, hle.2.2.1 m B e h2, vw_wy_le hle h3⟩
theorem vw_wy_zz {S : vx_S} {th : Int → rf_N} (hS : vx_So S th) : ∀ {w : List Int} {A C : rf_N}, vw_wy S w A C → vx_zz th C = vx_zz th A
  | [], _, _, h => by
    have h' : _ = _ := h
    rw [h']
  | m :: w, A, C, ⟨j, F, B, e, h1, h2, h3⟩ => by
    rw [vw_wy_zz hS h3, h1, vx_zz_call, vx_zz_body hS h2]
def vw_OK (S : vx_S) (n : Nat) (th : Int → rf_N) (A B : rf_N) (f : Nat) : Prop := (∃ a b, a + b + vw_N n th (vx_zz th A) ≤ 5 ∧ f = vw (vw_bd S) S.2.2.2.2 (6 - 2 * a) A [] + vw (vw_bd S) S.2.2.2.2 (6 - 2 * b) B []) ∨ (A = B ∧ ∃ t, vw_N n th (vx_zz th A) + 1 ≤ t ∧ f = vw (vw_bd S) S.2.2.2.2 t A [])
def vw_PH (S : vx_S) (n : Nat) (th : Int → rf_N) : List dv_E → Nat → Prop
  | [], _ => True
  | p :: r, f => ∃ f1 f2, vw_OK S n th p.1.1 p.2.1.1 f1 ∧ vw_PH S n th r f2 ∧ f1 + f2 ≤ f
theorem vw_PH_zip {S : vx_S} {n : Nat} {th : Int → rf_N} {r : List dv_E} {f2 : Nat} {c e : List (Int × Int)} {L mk : Int} {fa fb : rf_N → Nat} (hr : vw_PH S n th r f2) : ∀ {l l' : List rf_N}, l.length = l'.length → (∀ (i : Nat) A B, l[i]? = some A → l'[i]? = some B → vw_OK S n th A B (fa A + fb B)) → vw_PH S n th (List.zipWith (fun a b => ((a, c), (b, e), L, mk)) l l' ++ r) (vw_sm fa l + vw_sm fb l' + f2)
  | [], [], _, _ => by
    show vw_PH S n th r (0 + 0 + f2)
    rw [Nat.zero_add]
    exact hr
  | [], _ :: _, h, _ => by cases h
  | _ :: _, [], h, _ => by cases h
  | A :: l, B :: l', h, hO => by
    rw [List.length_cons, List.length_cons] at h
    refine ⟨fa A + fb B, vw_sm fa l + vw_sm fb l' + f2, hO 0 A B rfl rfl, vw_PH_zip hr (by omega) (fun i A' B' e1 e2 => hO (i + 1) A' B' e1 e2), ?_⟩
    show _ ≤ (fa A + vw_sm fa l) + (fb B + vw_sm fb l') + f2
    omega
