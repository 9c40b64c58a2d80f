/-! ===== the reference: what was read and checked, as trees with their meaning ===== -/
def rf_rk (s : sx_S) (j : Nat) : Int := if s.2.1 74 j = 0 then 0 else if s.2.1 83 j = 0 then 9 else s.2.1 83 j
/-- the tree at i, each node with its sort and with what it means -/
def rf_ym (s : sx_S) (n : rf_N) (i : Int) : Prop := rf_nd (rf_rk s) (s.2.1 82) (s.2.1 80) (s.2.1 81) (s.1 66 12) n i
def rf_RH (s : sx_S) (_ : Nat) (k r : Int) (u : rf_T) : Prop := rf_at u ≤ 5 ∧ ((k = 0 ∧ rf_vt s r u) ∨ (k = 1 ∧ (0 ≤ r ∧ r < s.1 66 42) ∧ rf_is s u (s.2.1 96 r.toNat)) ∨ (k = 2 ∧ rf_vt s r u) ∨ (k = 3 ∧ (0 ≤ r ∧ r < s.1 66 45) ∧ rf_is s u (s.2.1 123 r.toNat)))
def rf_RP (s : sx_S) (j : Nat) (t : rf_T) : Prop := rf_is s t (s.2.1 84 j)
/-- every unknown stands before distinct variables -/
def rf_gd : rf_N → Prop × Prop
  | .leaf => (True, True)
  | .inner _ k _ f x => ((k.1 = 0 ∧ (rf_gd f).1) ∨ (k.1 ≠ 0 ∧ (rf_gd f).2 ∧ (k.1 = 3 → ∃ vs, (rf_lf2 f).2 vs ∧ vs.Nodup)), ((k.1 = 0 ∧ (rf_gd f).1) ∨ (k.1 ≠ 0 ∧ (rf_gd f).2 ∧ (k.1 = 3 → ∃ vs, (rf_lf2 f).2 vs ∧ vs.Nodup))) ∧ (rf_gd x).2)
def rf_G1 : Nat → Int → List Int → Prop := fun _ _ _ => True
/-- the variables of a node's unknown are distinct and in scope -/
def rf_G (s : sx_S) (j : Nat) (r : Int) (Γ : List Int) : Prop := ∃ x : rf_T, rf_is s x (s.2.1 123 r.toNat) ∧ (0 ≤ s.2.1 104 j ∧ s.2.1 104 j + ((rf_args x).length : Int) ≤ s.1 66 56) ∧ (rf_rl s (s.2.1 104 j) (rf_args x).length).Nodup ∧ ∀ v ∈ rf_rl s (s.2.1 104 j) (rf_args x).length, v ∈ Γ
theorem rf_G_mo (s : sx_S) : rf_mo (rf_G s) := fun _ _ _ _ h ⟨x, h1, h2, h3, h4⟩ => ⟨x, h1, h2, h3, fun v hv => h v (h4 v hv)⟩
def rf_s1 : rf_N → Nat
  | .leaf => 0
  | .inner _ _ _ f _ => 1 + (rf_idx f).length
theorem rf_s1_idx {j : Nat} {k : Int × Int} {u : Unit} {f x : rf_N} : (rf_idx (.inner j k u f x)).length = rf_s1 (.inner j k u f x) + (rf_idx x).length := by
  show (j :: (rf_idx f ++ rf_idx x)).length = 1 + (rf_idx f).length + _
  rw [List.length_cons, List.length_append]
  omega
theorem rf_G_up {s t : sx_S} (h : rf_xu s t) {j : Nat} (hj : (j : Int) < s.1 66 50) {r : Int} {Γ : List Int} (g : rf_G s j r Γ) : rf_G t j r Γ := by
  obtain ⟨x, h1, ⟨h2, h2'⟩, h3, h4⟩ := g
  have e104 := (h.2 j).2.2.2.1 hj
  have e123 := (h.2 r.toNat).2.2.2.2.2
  have e56 := (h.2 0).1.2.1
  have er : rf_rl t (s.2.1 104 j) (rf_args x).length = rf_rl s (s.2.1 104 j) (rf_args x).length := rf_rl_eq (fun q hq => (h.2 _).2.2.1 (by omega))
  refine ⟨x, by rw [e123]; exact rf_is_up h1 h.1, by rw [e104]; omega, ?_, ?_⟩
  · rw [e104, er]
    exact h3
  · rw [e104, er]
    exact h4
theorem rf_sc_up {s t : sx_S} (h : rf_xu s t) {n : rf_N} {i : Int} (hn : rf_no s n i) : (∀ Γ, (rf_sc (rf_G s) n).1 Γ → (rf_sc (rf_G t) n).1 Γ) ∧ (∀ Γ, (rf_sc (rf_G s) n).2 Γ → (rf_sc (rf_G t) n).2 Γ) := by
  have := rf_sc_mono (n := n) (G := rf_G s) (G' := rf_G t) (fun j hj r Γ Γ' hs g => rf_G_mo t j r Γ Γ' hs (rf_G_up h (rf_nd_lt hn j hj) g))
  exact ⟨fun Γ => this.1 Γ Γ (fun _ q => q), fun Γ => this.2 Γ Γ (fun _ q => q)⟩
theorem rf_rp_len {s : sx_S} : ∀ {x : rf_T} {i e : Int}, rf_rp s .leaf x i e → e = i + ((rf_args x).length : Int)
  | .leaf, i, e, h => by
    have := h.2
    show e = i + ((0 : Nat) : Int)
    omega
  | .inner n u v A B, i, e, h => by
    rcases h with ⟨h, _⟩ | ⟨_, h⟩
    · cases h
    · have := rf_rp_len h
      show e = i + (((rf_args B).length + 1 : Nat) : Int)
      omega
theorem rf_gt_at {H : Nat → Int → Int → rf_T → Prop} {P : Nat → rf_T → Prop} : ∀ {n : rf_N} {u t : rf_T}, (rf_gt H P n).2 u t → rf_at t ≤ rf_at u
  | .leaf, u, t, h => by
    have e : u = t := h
    rw [e]
    exact Nat.le_refl _
  | .inner j k _ f x, u, t, ⟨A, B, h1, _, h3⟩ => by
    have := rf_gt_at h3
    have := rf_at_pos A
    rw [h1]
    show _ ≤ rf_at A + rf_at B
    omega
/-- these variables take the type x to the type y -/
def rf_vw (s : sx_S) : List Int → rf_T → rf_T → Prop
  | [], x, y => x = y
  | v :: l, x, y => ∃ A B, x = rf_a A B ∧ rf_vt s v A ∧ rf_vw s l B y
theorem rf_vw_up {s t : sx_S} (h : rf_xu s t) : ∀ {l : List Int} {x y : rf_T}, rf_vw s l x y → rf_vw t l x y
  | [], _, _, g => g
  | _ :: _, _, _, ⟨A, B, g1, g2, g3⟩ => ⟨A, B, g1, rf_vt_up h g2, rf_vw_up h g3⟩
theorem rf_vw_snoc {s : sx_S} {v : Int} {A B : rf_T} (hv : rf_vt s v A) : ∀ {l : List Int} {x : rf_T}, rf_vw s l x (rf_a A B) → rf_vw s (l ++ [v]) x B
  | [], x, g => ⟨A, B, g, hv, rfl⟩
  | _ :: _, x, ⟨A', B', g1, g2, g3⟩ => ⟨A', B', g1, g2, rf_vw_snoc hv g3⟩
theorem rf_vw_unsnoc {s : sx_S} {v : Int} {B : rf_T} : ∀ {l : List Int} {x : rf_T}, rf_vw s (l ++ [v]) x B → ∃ A, rf_vw s l x (rf_a A B) ∧ rf_vt s v A
  | [], x, ⟨A, B', g1, g2, g3⟩ => by
    have e : B' = B := g3
    subst e
    exact ⟨A, g1, g2⟩
  | _ :: _, x, ⟨A', B', g1, g2, g3⟩ => by
    obtain ⟨A, h1, h2⟩ := rf_vw_unsnoc g3
    exact ⟨A, ⟨A', B', g1, g2, h1⟩, h2⟩
theorem rf_vw_len {s : sx_S} : ∀ {l : List Int} {x y : rf_T}, rf_vw s l x y → l.length + rf_at y ≤ rf_at x
  | [], x, y, g => by
    have e : x = y := g
    rw [e]
    exact Nat.le_of_eq (Nat.zero_add _)
  | _ :: l, x, y, ⟨A, B, g1, _, g3⟩ => by
    have := rf_vw_len g3
    have := rf_at_pos A
    rw [g1, List.length_cons]
    show _ ≤ rf_at A + rf_at B
    omega
theorem rf_vw_rp {s : sx_S} {U : rf_T} {i : Int} : ∀ {n : Nat} {x : rf_T}, rf_vw s (rf_rl s i n) U x → rf_rp s x U i (i + (n : Int))
  | 0, x, g => by
    have e : U = x := g
    subst e
    cases U with
    | leaf => exact ⟨rfl, by omega⟩
    | inner _ _ _ _ _ => exact Or.inl ⟨rfl, by omega⟩
  | n + 1, x, g => by
    obtain ⟨A, h1, h2⟩ := rf_vw_unsnoc g
    have := rf_rp_snoc h2 (rf_vw_rp h1)
    rw [show i + ((n + 1 : Nat) : Int) = i + (n : Int) + 1 by omega]
    exact this
/-- n numbers of the small array o -/
def rf_ol (s : sx_S) (o : Nat) : Nat → List Int
  | 0 => []
  | n + 1 => rf_ol s o n ++ [s.2.2.1 o n]
theorem rf_ol_eq {s t : sx_S} {o : Nat} : ∀ {n : Nat}, (∀ q, q < n → t.2.2.1 o q = s.2.2.1 o q) → rf_ol t o n = rf_ol s o n
  | 0, _ => rfl
  | n + 1, h => by
    unfold rf_ol
    rw [rf_ol_eq (n := n) (fun q hq => h q (by omega)), h n (by omega)]
/-- what building leaves as it was -/
def rf_FB (s t : sx_S) : Prop := (∀ p, cx_out [(66, 66), (100, 106)] p → t.1 p = s.1 p ∧ t.2.1 p = s.2.1 p) ∧ rf_f [50, 56, 58] s t ∧ rf_xu s t ∧ rf_ag 100 103 (s.1 66 50) s t ∧ (∀ o, o < s.2.2.2 → t.2.2.1 o = s.2.2.1 o) ∧ s.2.2.2 ≤ t.2.2.2
theorem rf_FB_refl (s : sx_S) : rf_FB s s := ⟨fun _ _ => ⟨rfl, rfl⟩, rf_f_refl _ _, rf_xu_refl _, rf_ag_refl _ _ _ _, fun _ _ => rfl, Nat.le_refl _⟩
theorem rf_FB_trans {s t u : sx_S} (h2 : rf_FB t u) (h1 : rf_FB s t) : rf_FB s u := by
  obtain ⟨a1, a2, a3, a4, a5, a6⟩ := h1
  obtain ⟨b1, b2, b3, b4, b5, b6⟩ := h2
  exact ⟨fun p hp => ⟨(b1 p hp).1.trans (a1 p hp).1, (b1 p hp).2.trans (a1 p hp).2⟩, rf_f_step b2 rfl a2, rf_xu_trans b3 a3, rf_ag_trans b4 (a3.2 0).1.2.2.1 a4, fun o ho => (b5 o (by omega)).trans (a5 o ho), Nat.le_trans a6 b6⟩
theorem rf_FB_F {V : List (Nat × Nat)} {W : List Nat} {s t : sx_S} {m : Int} (hF : cx_F V s t) (hV : cx_le V [(66, 66), (100, 106)] = true) (hf : rf_f W s t) (hW : W.all (fun k => [50, 56, 58].contains k) = true) (hx : rf_xu s t) (ha : rf_ag 100 103 m s t) (hm : s.1 66 50 ≤ m) : rf_FB s t := by
  have e : t.2.2 = s.2.2 := (hF 0).2
  refine ⟨fun p hp => (hF p).1 (cx_le_ok hV hp), rf_f_step hf hW (rf_f_refl _ _), hx, rf_ag_trans ha hm (rf_ag_refl _ _ _ _), fun o _ => by rw [e], by rw [e]; exact Nat.le_refl _⟩
theorem rf_FB.same {s t : sx_S} (h : rf_FB s t) (p : Nat) (hp : cx_outb [(66, 66), (100, 106)] p = true) : t.1 p = s.1 p ∧ t.2.1 p = s.2.1 p := h.1 p (cx_outb_ok hp)
theorem rf_ym_up {s t : sx_S} (h : rf_FB s t) {n : rf_N} {i : Int} (g : rf_ym s n i) : rf_ym t n i := by
  have e : rf_rk t = rf_rk s := by
    funext j
    unfold rf_rk
    rw [(h.same 74 rfl).2, (h.same 83 rfl).2]
  unfold rf_ym at g ⊢
  rw [e, (h.same 82 rfl).2, (h.same 80 rfl).2, (h.same 81 rfl).2, h.2.1 12 rfl]
  exact g
theorem rf_RH_up {s t : sx_S} (h : rf_xu s t) {j : Nat} {k r : Int} {u : rf_T} (g : rf_RH s j k r u) : rf_RH t j k r u := by
  obtain ⟨g0, g⟩ := g
  refine ⟨g0, ?_⟩
  rcases g with ⟨g1, g2⟩ | ⟨g1, g2, g3⟩ | ⟨g1, g2⟩ | ⟨g1, g2, g3⟩
  · exact Or.inl ⟨g1, rf_vt_up h g2⟩
  · refine Or.inr (Or.inl ⟨g1, ?_, ?_⟩)
    · have := (h.2 0).1
      omega
    · rw [(h.2 r.toNat).2.2.2.2.1]
      exact rf_is_up g3 h.1
  · exact Or.inr (Or.inr (Or.inl ⟨g1, rf_vt_up h g2⟩))
  · refine Or.inr (Or.inr (Or.inr ⟨g1, ?_, ?_⟩))
    · have := (h.2 0).1
      omega
    · rw [(h.2 r.toNat).2.2.2.2.2]
      exact rf_is_up g3 h.1
theorem rf_Rt_up {s t : sx_S} (h : rf_xu s t) {n : rf_N} (h84 : ∀ j ∈ rf_idx n, t.2.1 84 j = s.2.1 84 j) : (∀ x, (rf_gt (rf_RH s) (rf_RP s) n).1 x → (rf_gt (rf_RH t) (rf_RP t) n).1 x) ∧ (∀ x y, (rf_gt (rf_RH s) (rf_RP s) n).2 x y → (rf_gt (rf_RH t) (rf_RP t) n).2 x y) :=
  rf_gt_mono (fun j hj => ⟨fun k r u g => rf_RH_up h g, fun x g => by
    unfold rf_RP
    rw [h84 j hj]
    exact rf_is_up g h.1⟩)
theorem rf_lf_nn {s : sx_S} {v : Int} : ∀ {n : rf_N} {us : List Int} {x : rf_T}, (rf_lf2 n).1 us v → (rf_gt (rf_H s) rf_P n).1 x → 0 ≤ v
  | .leaf, _, _, h, _ => h.elim
  | .inner j k u f y, us, x, h, g => by
    rcases h with ⟨h1, h2⟩ | ⟨h1, h2, _⟩
    · rcases g with ⟨_, A, B, _, _, g⟩ | ⟨g, _⟩
      · exact rf_lf_nn h2 g
      · exact absurd h1 g
    · rcases g with ⟨g, _⟩ | ⟨_, w, g, _⟩
      · omega
      · have := (rf_H_2 g h1).1.1
        omega
theorem rf_lf2_sc {G : Nat → Int → List Int → Prop} {Γ : List Int} : ∀ {n : rf_N} {vs : List Int}, (rf_lf2 n).2 vs → (rf_sc G n).2 Γ → ∀ v ∈ vs, v ∈ Γ
  | .leaf, vs, h, _, v, hv => by
    have e : vs = [] := h
    rw [e] at hv
    exact absurd hv List.not_mem_nil
  | .inner j k u f x, vs, ⟨w, vs', h1, h2, h3⟩, g, v, hv => by
    rw [h1] at hv
    rcases List.mem_cons.mp hv with rfl | hv
    · exact rf_lf_sc (n := .inner j k u f x) (us := []) (D := Γ) h2 g.1 (fun w hw => Or.inr hw)
    · exact rf_lf2_sc h3 g.2 v hv
/-- a part more at the end -/
theorem rf_lf2_snoc1 {j : Nat} {k : Int × Int} {u : Unit} {p : rf_N} : ∀ {f : rf_N} {us : List Int}, (rf_lf2 (rf_snoc f (.inner j k u p .leaf))).2 us ↔ ∃ us' v, us = us' ++ [v] ∧ (rf_lf2 f).2 us' ∧ rf_lf (.inner j k u p .leaf) v
  | .leaf, us => by
    constructor
    · rintro ⟨w, us', h1, h2, h3⟩
      have e : us' = [] := h3
      subst e
      exact ⟨[], w, h1, rfl, h2⟩
    · rintro ⟨us', v, h1, h2, h3⟩
      have e : us' = [] := h2
      subst e
      exact ⟨v, [], h1, h3, rfl⟩
  | .inner j' k' u' f' x', us => by
    constructor
    · rintro ⟨w, us', h1, h2, h3⟩
      obtain ⟨us'', v, e1, e2, e3⟩ := rf_lf2_snoc1.mp h3
      exact ⟨w :: us'', v, by rw [h1, e1]; rfl, ⟨w, us'', rfl, h2, e2⟩, e3⟩
    · rintro ⟨us', v, h1, ⟨w, us'', e1, e2, e3⟩, h3⟩
      exact ⟨w, us'' ++ [v], by rw [h1, e1]; rfl, e2, rf_lf2_snoc1.mpr ⟨us'', v, rfl, e3, h3⟩⟩
theorem rf_RH_H {s : sx_S} {j : Nat} {k r : Int} {u : rf_T} (h : rf_RH s j k r u) (i : Nat) (hk : k ≠ 3) : rf_H s i k r u := by
  rcases h.2 with h | h | h | h
  · exact Or.inl h
  · exact Or.inr (Or.inl h)
  · exact Or.inr (Or.inr (Or.inl h))
  · exact absurd h.1 hk
