section
/-! ===== the reference: its memory as a state of solving ===== -/
/-- what counts of a tree: a \ has one part, an unknown none -/
def vr_c : rf_N → rf_N
  | .leaf => .leaf
  | .inner j q _ f x => .inner j q () (if q.1 = 0 then vx_1 (vr_c f) else if q.1 = 3 then .leaf else vr_c f) (vr_c x)
/-- one node of it alone -/
def vr_1 (A : rf_N) : rf_N := vx_1 (vr_c A)
def vr_f (k : Int) (f : rf_N) : rf_N := if k = 0 then vr_1 f else if k = 3 then .leaf else vr_c f
theorem vr_f_0 {k : Int} {f : rf_N} (h : k = 0) : vr_f k f = vr_1 f := if_pos h
theorem vr_f_3 {k : Int} {f : rf_N} (h : k = 3) : vr_f k f = .leaf := by
  unfold vr_f
  rw [if_neg (by omega), if_pos h]
theorem vr_f_2 {k : Int} {f : rf_N} (h : k = 1 ∨ k = 2) : vr_f k f = vr_c f := by
  unfold vr_f
  rw [if_neg (by omega), if_neg (by omega)]
theorem vr_1_in (j : Nat) (q : Int × Int) (u : Unit) (f x : rf_N) : vr_1 (.inner j q u f x) = .inner j q () (vr_f q.1 f) .leaf := rfl
theorem vr_c_in (j : Nat) (q : Int × Int) (u : Unit) (f x : rf_N) : vr_c (.inner j q u f x) = .inner j q () (vr_f q.1 f) (vr_c x) := rfl
theorem vr_1_1 : ∀ A : rf_N, vx_1 (vr_1 A) = vr_1 A
  | .leaf => rfl
  | .inner _ _ _ _ _ => rfl
theorem vr_1_ne {A : rf_N} (h : A ≠ .leaf) : vr_1 A ≠ .leaf := by
  cases A with
  | leaf => exact absurd rfl h
  | inner j q u f x =>
    intro z
    rw [vr_1_in] at z
    cases z
/-- its nodes lie below n, are of the four kinds, and p holds of its unknowns -/
def vr_g (n : Int) (p : Nat → Int → Prop) : rf_N → Prop × Prop
  | .leaf => (False, True)
  | .inner j k _ f x => ((j : Int) < n ∧ ((k.1 = 0 ∧ (vr_g n p f).1) ∨ (k.1 = 3 ∧ p j k.2) ∨ ((k.1 = 1 ∨ k.1 = 2) ∧ (vr_g n p f).2)), ((j : Int) < n ∧ ((k.1 = 0 ∧ (vr_g n p f).1) ∨ (k.1 = 3 ∧ p j k.2) ∨ ((k.1 = 1 ∨ k.1 = 2) ∧ (vr_g n p f).2))) ∧ (vr_g n p x).2)
theorem vr_g_mono {n n' : Int} {p p' : Nat → Int → Prop} (hn : n ≤ n') (hp : ∀ (j : Nat) (r : Int), (j : Int) < n → p j r → p' j r) : ∀ {A : rf_N}, ((vr_g n p A).1 → (vr_g n' p' A).1) ∧ ((vr_g n p A).2 → (vr_g n' p' A).2)
  | .leaf => ⟨fun h => h, fun h => h⟩
  | .inner j k u f x => by
    have hf := vr_g_mono hn hp (A := f)
    have hx := vr_g_mono hn hp (A := x)
    have key : (vr_g n p (.inner j k u f x)).1 → (vr_g n' p' (.inner j k u f x)).1 := by
      rintro ⟨h1, ⟨k0, h⟩ | ⟨k3, h⟩ | ⟨k2, h⟩⟩
      · exact ⟨by omega, Or.inl ⟨k0, hf.1 h⟩⟩
      · exact ⟨by omega, Or.inr (Or.inl ⟨k3, hp j _ h1 h⟩)⟩
      · exact ⟨by omega, Or.inr (Or.inr ⟨k2, hf.2 h⟩)⟩
    exact ⟨key, fun h => ⟨key h.1, hx.2 h.2⟩⟩
/-- the row of a node before the unknown r; what is known of an unknown's node -/
def vr_rw (s : sx_S) (j : Nat) (r : Int) : List Int := (List.range (rf_aa s r).toNat).map (rf_rv1 s j)
def vr_p (s : sx_S) (AR : Nat → List Int) (j : Nat) (r : Int) : Prop := rf_bn s j r ∧ AR j = vr_rw s j r
def vr_t (s : sx_S) (AR : Nat → List Int) (A : rf_N) : Prop := (vr_g (s.1 66 50) (vr_p s AR) A).1
def vr_r (s : sx_S) (AR : Nat → List Int) (A : rf_N) : Prop := (vr_g (s.1 66 50) (vr_p s AR) A).2
/-- the variables of a solved unknown; which of them a variable of its body is -/
def vr_fl (s : sx_S) (u : Int) : List Int := (List.range (rf_aa s u).toNat).map (rf_fm s u)
def vr_e (s : sx_S) (g : rf_Gh) (u z : Int) : Int := if rf_look (g.2.1 u) z ∈ vr_fl s u then vx_ii (vr_fl s u) (rf_look (g.2.1 u) z) else -1
def vr_ar (s : sx_S) (u : Int) : Int := if 0 ≤ u ∧ u < s.1 66 61 then rf_aa s u else 0
def vr_bo (s : sx_S) (g : rf_Gh) (u : Int) : Option (rf_N × (Int → Int)) := if (0 ≤ u ∧ u < s.1 66 61) ∧ s.2.1 111 u.toNat ≠ 0 then some (vr_1 (g.1 u), vr_e s g u) else none
def vr_S (s : sx_S) (g : rf_Gh) (AR : Nat → List Int) : vx_S := (s.1 66 61, s.1 66 50, vr_ar s, vr_bo s g, AR)
/-- the bodies -/
def vr_G (s : sx_S) (g : rf_Gh) (AR : Nat → List Int) : Prop := ∀ x : Int, 0 ≤ x → x < s.1 66 61 → s.2.1 111 x.toNat ≠ 0 → vr_t s AR (g.1 x)
theorem vr_gr {f : Nat → Int} {n i : Nat} {z : Int} : ((List.range n).map f)[i]? = some z ↔ i < n ∧ z = f i := by
  rw [List.getElem?_map]
  by_cases h : i < n
  · rw [List.getElem?_range h]
    constructor
    · intro q
      exact ⟨h, (Option.some.inj q).symm⟩
    · rintro ⟨_, rfl⟩
      rfl
  · rw [List.getElem?_eq_none (by rw [List.length_range]; omega)]
    constructor
    · intro q
      cases q
    · rintro ⟨q, _⟩
      exact absurd q h
theorem vr_gm {f : Nat → Int} {n : Nat} {z : Int} : z ∈ (List.range n).map f ↔ ∃ i, i < n ∧ z = f i := by
  constructor
  · intro h
    obtain ⟨i, h1, h2⟩ := List.mem_map.mp h
    exact ⟨i, List.mem_range.mp h1, h2.symm⟩
  · rintro ⟨i, h1, rfl⟩
    exact List.mem_map_of_mem (List.mem_range.mpr h1)
theorem vr_gl {f : Nat → Int} {n : Nat} : ((List.range n).map f).length = n := by rw [List.length_map, List.length_range]
theorem vr_gn {f : Nat → Int} {n : Nat} (h : ∀ i j, i < n → j < n → f i = f j → i = j) : ((List.range n).map f).Nodup := by
  refine List.pairwise_map.mpr (List.Pairwise.imp_of_mem (fun {a b} ha hb hne e => ?_) (List.nodup_range (n := n)))
  exact hne (h a b (List.mem_range.mp ha) (List.mem_range.mp hb) e)
theorem vr_bo_some {s : sx_S} {g : rf_Gh} {u : Int} {B : rf_N} {e : Int → Int} (h : vr_bo s g u = some (B, e)) : (0 ≤ u ∧ u < s.1 66 61) ∧ s.2.1 111 u.toNat ≠ 0 ∧ vr_1 (g.1 u) = B ∧ vr_e s g u = e := by
  unfold vr_bo at h
  by_cases c : (0 ≤ u ∧ u < s.1 66 61) ∧ s.2.1 111 u.toNat ≠ 0
  · rw [if_pos c] at h
    obtain ⟨h1, h2⟩ := Prod.mk.inj (Option.some.inj h)
    exact ⟨c.1, c.2, h1, h2⟩
  · rw [if_neg c] at h
    cases h
theorem vr_bo_at {s : sx_S} {g : rf_Gh} {u : Int} (h : 0 ≤ u ∧ u < s.1 66 61) (hs : s.2.1 111 u.toNat ≠ 0) : vr_bo s g u = some (vr_1 (g.1 u), vr_e s g u) := if_pos ⟨h, hs⟩
theorem vr_bo_no {s : sx_S} {g : rf_Gh} {u : Int} (h : s.2.1 111 u.toNat = 0) : vr_bo s g u = none := if_neg (fun c => c.2 h)
theorem vr_bo_out {s : sx_S} {g : rf_Gh} {u : Int} (h : ¬ (0 ≤ u ∧ u < s.1 66 61)) : vr_bo s g u = none := if_neg (fun c => h c.1)
theorem vr_ar_at {s : sx_S} {u : Int} (h : 0 ≤ u ∧ u < s.1 66 61) : vr_ar s u = rf_aa s u := if_pos h
theorem vr_aa0 {s : sx_S} (hI : cx_I s) (u : Int) : 0 ≤ rf_aa s u ∧ rf_aa s u ≤ 4 := hI.arr 108 (by decide) rfl u.toNat
theorem vr_ar0 {s : sx_S} (hI : cx_I s) (u : Int) : 0 ≤ vr_ar s u := by
  unfold vr_ar
  by_cases c : 0 ≤ u ∧ u < s.1 66 61
  · rw [if_pos c]
    exact (vr_aa0 hI u).1
  · rw [if_neg c]
    exact Int.le_refl _
theorem vr_e_lt {s : sx_S} (hI : cx_I s) (g : rf_Gh) (u z : Int) : vr_e s g u z < rf_aa s u := by
  have h0 := vr_aa0 hI u
  unfold vr_e
  by_cases c : rf_look (g.2.1 u) z ∈ vr_fl s u
  · rw [if_pos c]
    have := vx_ii_lt c
    unfold vr_fl at this
    rw [vr_gl] at this
    unfold vr_fl
    omega
  · rw [if_neg c]
    omega
theorem vr_fl_n {s : sx_S} {u : Int} (h : ∀ p q : Nat, (p : Int) < rf_aa s u → (q : Int) < rf_aa s u → rf_fm s u p = rf_fm s u q → p = q) : (vr_fl s u).Nodup := vr_gn (fun i j hi hj => h i j (by omega) (by omega))
theorem vr_e_at {s : sx_S} {g : rf_Gh} {u z : Int} {q : Nat} (hn : ∀ p q : Nat, (p : Int) < rf_aa s u → (q : Int) < rf_aa s u → rf_fm s u p = rf_fm s u q → p = q) (hq : (q : Int) < rf_aa s u) (h : rf_look (g.2.1 u) z = rf_fm s u q) : vr_e s g u z = (q : Int) := by
  have hm : (vr_fl s u)[q]? = some (rf_look (g.2.1 u) z) := vr_gr.mpr ⟨by omega, h⟩
  unfold vr_e
  rw [if_pos (List.mem_of_getElem? hm)]
  exact vx_ii_at (vr_fl_n hn) hm
theorem vr_e_nn {s : sx_S} {g : rf_Gh} {u z : Int} (h : 0 ≤ vr_e s g u z) : ∃ q : Nat, (q : Int) < rf_aa s u ∧ vr_e s g u z = (q : Int) ∧ rf_look (g.2.1 u) z = rf_fm s u q := by
  unfold vr_e at h ⊢
  by_cases c : rf_look (g.2.1 u) z ∈ vr_fl s u
  · rw [if_pos c]
    have h1 := vx_ii_get c
    obtain ⟨h2, h3⟩ := vr_gr.mp h1
    have h0 := vx_ii_0 (vr_fl s u) (rf_look (g.2.1 u) z)
    exact ⟨_, by omega, (Int.toNat_of_nonneg h0).symm, h3⟩
  · rw [if_neg c] at h
    omega
theorem vr_in_cons {S : vx_S} {j : Nat} {k : Int × Int} {F X : rf_N} (h : vx_in S (.inner j k () F .leaf)) (hX : vx_in S X) : vx_in S (.inner j k () F X) := by
  obtain ⟨h1, h2, h3⟩ := h
  obtain ⟨x1, x2, x3⟩ := hX
  refine ⟨fun m hm => ?_, fun i hi => ?_, ⟨h3.1, x3⟩⟩
  · rcases hm with hm | hm | hm
    · exact h1 m (Or.inl hm)
    · exact h1 m (Or.inr (Or.inl hm))
    · exact x1 m hm
  · rcases List.mem_cons.mp hi with rfl | hi
    · exact h2 _ List.mem_cons_self
    · rcases List.mem_append.mp hi with hi | hi
      · exact h2 i (List.mem_cons_of_mem _ (List.mem_append_left _ hi))
      · exact x2 i hi
theorem vr_in {s : sx_S} {g : rf_Gh} {AR : Nat → List Int} (hI : cx_I s) : ∀ {A : rf_N}, (vr_t s AR A → vx_in (vr_S s g AR) (vr_1 A)) ∧ (vr_r s AR A → vx_in (vr_S s g AR) (vr_c A))
  | .leaf => ⟨fun h => h.elim, fun _ => ⟨fun _ h => h.elim, fun _ h => absurd h List.not_mem_nil, trivial⟩⟩
  | .inner j k u f x => by
    have hf := vr_in (s := s) (g := g) (AR := AR) hI (A := f)
    have hx := vr_in (s := s) (g := g) (AR := AR) hI (A := x)
    have key : vr_t s AR (.inner j k u f x) → vx_in (vr_S s g AR) (vr_1 (.inner j k u f x)) := by
      rintro ⟨hj, h⟩
      rw [vr_1_in]
      rcases h with ⟨k0, h⟩ | ⟨k3, hb, hq⟩ | ⟨k2, h⟩
      · rw [vr_f_0 k0]
        obtain ⟨i1, i2, i3⟩ := hf.1 h
        refine ⟨fun m hm => ?_, fun i hi => ?_, ⟨Or.inl ⟨Or.inl k0, i3⟩, trivial⟩⟩
        · rcases hm with ⟨c, _⟩ | ⟨_, hm⟩ | hm
          · omega
          · exact i1 m hm
          · exact hm.elim
        · rcases List.mem_cons.mp hi with rfl | hi
          · exact hj
          · rcases List.mem_append.mp hi with hi | hi
            · exact i2 i hi
            · exact absurd hi List.not_mem_nil
      · rw [vr_f_3 k3]
        obtain ⟨_, hr, _⟩ := hb
        refine ⟨fun m hm => ?_, fun i hi => ?_, ⟨Or.inr ⟨k3, ?_⟩, trivial⟩⟩
        · rcases hm with ⟨_, c⟩ | ⟨_, hm⟩ | hm
          · rw [← c]
            exact hr
          · exact hm.elim
          · exact hm.elim
        · rcases List.mem_cons.mp hi with rfl | hi
          · exact hj
          · exact absurd hi List.not_mem_nil
        · show ((AR j).length : Int) = vr_ar s k.2
          rw [hq, vr_ar_at hr]
          unfold vr_rw
          rw [vr_gl]
          have := vr_aa0 hI k.2
          omega
      · rw [vr_f_2 k2]
        obtain ⟨i1, i2, i3⟩ := hf.2 h
        refine ⟨fun m hm => ?_, fun i hi => ?_, ⟨Or.inl ⟨Or.inr k2, i3⟩, trivial⟩⟩
        · rcases hm with ⟨c, _⟩ | ⟨_, hm⟩ | hm
          · omega
          · exact i1 m hm
          · exact hm.elim
        · rcases List.mem_cons.mp hi with rfl | hi
          · exact hj
          · rcases List.mem_append.mp hi with hi | hi
            · exact i2 i hi
            · exact absurd hi List.not_mem_nil
    refine ⟨key, fun h => ?_⟩
    rw [vr_c_in]
    exact vr_in_cons (key h.1) (hx.2 h.2)
theorem vr_mt {s : sx_S} {AR : Nat → List Int} {m : Int} : ∀ {A : rf_N}, (vr_t s AR A → vx_mt m (vr_1 A) → (rf_oc A).1 m) ∧ (vr_r s AR A → vx_mt m (vr_c A) → (rf_oc A).2 m)
  | .leaf => ⟨fun h => h.elim, fun _ h => h.elim⟩
  | .inner j k u f x => by
    have hf := vr_mt (s := s) (AR := AR) (m := m) (A := f)
    have hx := vr_mt (s := s) (AR := AR) (m := m) (A := x)
    have key : vr_t s AR (.inner j k u f x) → ((k.1 = 3 ∧ k.2 = m) ∨ (k.1 ≠ 3 ∧ vx_mt m (vr_f k.1 f))) → (rf_oc (.inner j k u f x)).1 m := by
      rintro ⟨hj, h⟩ hm
      rcases hm with ⟨c, hm⟩ | ⟨c, hm⟩
      · exact Or.inl ⟨c, hm.symm⟩
      · rcases h with ⟨k0, h⟩ | ⟨k3, _⟩ | ⟨k2, h⟩
        · rw [vr_f_0 k0] at hm
          exact Or.inr (Or.inl ⟨k0, hf.1 h hm⟩)
        · exact absurd k3 c
        · rw [vr_f_2 k2] at hm
          exact Or.inr (Or.inr ⟨k2, hf.2 h hm⟩)
    constructor
    · intro h hm
      rw [vr_1_in] at hm
      rcases hm with hm | hm | hm
      · exact key h (Or.inl hm)
      · exact key h (Or.inr hm)
      · exact hm.elim
    · intro h hm
      rw [vr_c_in] at hm
      rcases hm with hm | hm | hm
      · exact Or.inl (key h.1 (Or.inl hm))
      · exact Or.inl (key h.1 (Or.inr hm))
      · exact Or.inr (hx.2 h.2 hm)
theorem vr_fv {s : sx_S} {AR : Nat → List Int} {V : Int → Int → Prop} {U : Int → Nat → Prop} (hU : ∀ m (i : Nat), (i : Int) < rf_aa s m → V m i → U m i) {z : Int} : ∀ {A : rf_N}, (vr_t s AR A → vx_fv V AR z (vr_1 A) → (rf_fo (rf_Wd s U) A).1 z) ∧ (vr_r s AR A → vx_fv V AR z (vr_c A) → (rf_fo (rf_Wd s U) A).2 z)
  | .leaf => ⟨fun h => h.elim, fun _ h => h.elim⟩
  | .inner j k u f x => by
    have hf := vr_fv (s := s) (AR := AR) hU (z := z) (A := f)
    have hx := vr_fv (s := s) (AR := AR) hU (z := z) (A := x)
    have key : vr_t s AR (.inner j k u f x) → ((k.1 = 0 ∧ z ≠ k.2 ∧ vx_fv V AR z (vr_f k.1 f)) ∨ (k.1 = 3 ∧ ∃ i : Nat, (AR j)[i]? = some z ∧ V k.2 i) ∨ (k.1 ≠ 0 ∧ k.1 ≠ 3 ∧ ((k.1 = 2 ∧ z = k.2) ∨ vx_fv V AR z (vr_f k.1 f)))) → (rf_fo (rf_Wd s U) (.inner j k u f x)).1 z := by
      rintro ⟨hj, h⟩ hm
      rcases hm with ⟨c, c2, hm⟩ | ⟨c, i, i1, i2⟩ | ⟨c, c3, hm⟩
      · rcases h with ⟨k0, h⟩ | ⟨k3, _⟩ | ⟨k2, h⟩
        · rw [vr_f_0 k0] at hm
          exact Or.inr (Or.inl ⟨k0, c2, hf.1 h hm⟩)
        · omega
        · omega
      · rcases h with ⟨k0, h⟩ | ⟨k3, _, hq⟩ | ⟨k2, h⟩
        · omega
        · rw [hq] at i1
          obtain ⟨q1, q2⟩ := vr_gr.mp i1
          exact Or.inl ⟨c, i, hU _ i (by omega) i2, q2⟩
        · omega
      · rcases h with ⟨k0, h⟩ | ⟨k3, _⟩ | ⟨k2, h⟩
        · exact absurd k0 c
        · exact absurd k3 c3
        · refine Or.inr (Or.inr ⟨k2, ?_⟩)
          rcases hm with hm | hm
          · exact Or.inl hm
          · rw [vr_f_2 k2] at hm
            exact Or.inr (hf.2 h hm)
    constructor
    · intro h hm
      rw [vr_1_in] at hm
      rcases hm with hm | hm
      · exact key h hm
      · exact hm.elim
    · intro h hm
      rw [vr_c_in] at hm
      rcases hm with hm | hm
      · exact Or.inl (key h.1 hm)
      · exact Or.inr (hx.2 h.2 hm)
theorem vr_t_ne {s : sx_S} {AR : Nat → List Int} {A : rf_N} (h : vr_t s AR A) : A ≠ .leaf := by
  rintro rfl
  exact h
theorem vr_W {s : sx_S} {g : rf_Gh} {AR : Nat → List Int} (hI : cx_I s) (hG : vr_G s g AR) : vx_W (vr_S s g AR) := fun u B e h => by
  obtain ⟨h1, h2, rfl, rfl⟩ := vr_bo_some h
  refine ⟨h1, (vr_in hI).1 (hG u h1.1 h1.2 h2), fun z => ?_⟩
  show vr_e s g u z < vr_ar s u
  rw [vr_ar_at h1]
  exact vr_e_lt hI g u z
theorem vr_B1 {s : sx_S} {g : rf_Gh} {AR : Nat → List Int} (hI : cx_I s) (hG : vr_G s g AR) : vx_B1 (vr_S s g AR) := by
  refine ⟨fun u B e h => ?_, fun u => vr_ar0 hI u⟩
  obtain ⟨h1, h2, rfl, rfl⟩ := vr_bo_some h
  exact ⟨vr_1_ne (vr_t_ne (hG u h1.1 h1.2 h2)), vr_1_1 _⟩
/-- what is used -/
def vr_U (g : rf_Gh) (m i : Int) : Prop := ∃ q : Nat, i = (q : Int) ∧ g.2.2 m q
theorem vr_Ux {nb ib : Int} {s : sx_S} {g : rf_Gh} {AR : Nat → List Int} (hM : rf_MI nb ib s g) (hG : vr_G s g AR) {u z : Int} (hu : 0 ≤ u ∧ u < s.1 66 61) (hs : s.2.1 111 u.toNat ≠ 0) (h : vx_fv (vr_U g) AR z (vr_1 (g.1 u))) : vr_U g u (vr_e s g u z) := by
  have hMX := hM.1 u hu.1 hu.2
  have hSV := hMX.2.2.2 hs
  have h1 := (vr_fv (s := s) (AR := AR) (V := vr_U g) (U := g.2.2) (fun m i _ ⟨q, q1, q2⟩ => by rw [show i = q by omega]; exact q2)).1 (hG u hu.1 hu.2 hs) h
  obtain ⟨q, q1, q2⟩ := hSV.2.2.2.1 z h1
  exact ⟨q, vr_e_at hSV.2.2.1.2.2.2 (hMX.2.1 q q1) q2, q1⟩
theorem vr_cl {nb ib : Int} {s : sx_S} {g : rf_Gh} {AR : Nat → List Int} (hM : rf_MI nb ib s g) (hG : vr_G s g AR) : vx_cl (vr_S s g AR) (vr_U g) := by
  refine ⟨fun v i hv i0 i1 => ?_, fun v B e z hb hz => ?_⟩
  · have i1' : i < vr_ar s v := i1
    by_cases c : 0 ≤ v ∧ v < s.1 66 61
    · rw [vr_ar_at c] at i1'
      refine ⟨i.toNat, by omega, (hM.1 v c.1 c.2).2.2.1 ?_ _ (by omega)⟩
      apply Classical.byContradiction
      intro hs
      have hv' : vr_bo s g v = none := hv
      rw [vr_bo_at c hs] at hv'
      cases hv'
    · unfold vr_ar at i1'
      rw [if_neg c] at i1'
      omega
  · obtain ⟨h1, h2, rfl, rfl⟩ := vr_bo_some hb
    exact vr_Ux hM hG h1 h2 hz
theorem vr_Sc {nb ib : Int} {s : sx_S} {g : rf_Gh} {AR : Nat → List Int} (hM : rf_MI nb ib s g) (hG : vr_G s g AR) : vx_Sc (vr_S s g AR) := fun u B e z hb hz => by
  obtain ⟨h1, h2, rfl, rfl⟩ := vr_bo_some hb
  obtain ⟨q, q1, _⟩ := vr_Ux hM hG h1 h2 (vx_fv_mono (V := vr_U g) (fun m i hu => hu _ (vr_cl hM hG)) hz)
  omega
noncomputable def vr_ct (p : Nat → Prop) : Nat → Nat
  | 0 => 0
  | n + 1 => vr_ct p n + @ite Nat (p n) (Classical.propDecidable _) 1 0
theorem vr_ct_s (p : Nat → Prop) (n : Nat) : vr_ct p (n + 1) = vr_ct p n + @ite Nat (p n) (Classical.propDecidable _) 1 0 := rfl
theorem vr_ct_le {p q : Nat → Prop} (h : ∀ x, p x → q x) : ∀ n, vr_ct p n ≤ vr_ct q n
  | 0 => Nat.le_refl _
  | n + 1 => by
    have ih := vr_ct_le h n
    rw [vr_ct_s, vr_ct_s]
    by_cases c : p n
    · rw [if_pos c, if_pos (h n c)]
      omega
    · rw [if_neg c]
      omega
theorem vr_ct_lt {p q : Nat → Prop} {a : Nat} (h : ∀ x, p x → q x) (hq : q a) (hp : ¬ p a) : ∀ n, a < n → vr_ct p n < vr_ct q n
  | 0, ha => absurd ha (Nat.not_lt_zero _)
  | n + 1, ha => by
    rw [vr_ct_s, vr_ct_s]
    by_cases e : a = n
    · have ih := vr_ct_le h n
      rw [← e, if_neg hp, if_pos hq]
      rw [e]
      omega
    · have ih := vr_ct_lt h hq hp n (by omega)
      by_cases c : p n
      · rw [if_pos c, if_pos (h n c)]
        omega
      · rw [if_neg c]
        omega
theorem vr_rk {nb ib : Int} {s : sx_S} {g : rf_Gh} {AR : Nat → List Int} (hI : cx_I s) (hM : rf_MI nb ib s g) (hG : vr_G s g AR) : vx_rk (vr_S s g AR) (fun u => vr_ct (fun x => rf_rc (rf_Ed s g) u (x : Int)) (s.1 66 61).toNat) := fun u B e m hb hm => by
  obtain ⟨h1, h2, rfl, rfl⟩ := vr_bo_some hb
  have hr := ((vr_in (g := g) hI).1 (hG u h1.1 h1.2 h2)).1 m hm
  have hr' : 0 ≤ m ∧ m < s.1 66 61 := hr
  have hE : rf_Ed s g u m := ⟨h1, h2, (vr_mt (s := s) (AR := AR)).1 (hG u h1.1 h1.2 h2) hm⟩
  have em : ((m.toNat : Nat) : Int) = m := Int.toNat_of_nonneg hr'.1
  refine vr_ct_lt (a := m.toNat) (fun x hx => rf_rc_trans (.single hE) hx) ?_ ?_ _ (by omega)
  · try dsimp only
    rw [em]
    exact .single hE
  · try dsimp only
    rw [em]
    exact hM.2 m
/-- what has come so far has a solution -/
theorem vr_fin {nb ib : Int} {s : sx_S} {g : rf_Gh} {AR : Nat → List Int} (hI : cx_I s) (hM : rf_MI nb ib s g) (hG : vr_G s g AR) : ∃ th, vx_So (vr_S s g AR) th := by
  obtain ⟨th, h, _⟩ := vx_fin (vr_W hI hG) (vr_B1 hI hG) (vr_rk hI hM hG) (vr_Sc hM hG)
  exact ⟨th, h⟩
end
section
/-! ===== the reference: what later states keep; values of nodes under names ===== -/
theorem vr_rw_up {nb ib : Int} {s t : sx_S} (h : rf_EX nb ib s t) {j : Nat} {r : Int} (hb : rf_bn s j r) : vr_rw t j r = vr_rw s j r := by
  obtain ⟨b1, b2, b3, b4⟩ := hb
  unfold vr_rw
  rw [h.aa b2.1 b2.2]
  refine List.map_congr_left (fun q hq => ?_)
  have := List.mem_range.mp hq
  exact h.rv b1 b3 (by omega)
theorem vr_p_up {nb ib : Int} {s t : sx_S} (h : rf_EX nb ib s t) {AR AR' : Nat → List Int} {j : Nat} {r : Int} (hA : AR' j = AR j) (k : vr_p s AR j r) : vr_p t AR' j r := ⟨rf_bn_up h k.1, by rw [hA, k.2, vr_rw_up h k.1]⟩
theorem vr_t_up {nb ib : Int} {s t : sx_S} (h : rf_EX nb ib s t) {AR AR' : Nat → List Int} (hA : ∀ j : Nat, (j : Int) < s.1 66 50 → AR' j = AR j) {A : rf_N} : (vr_t s AR A → vr_t t AR' A) ∧ (vr_r s AR A → vr_r t AR' A) := vr_g_mono h.1.2.1 (fun j _ hj k => vr_p_up h (hA j hj) k)
theorem vr_fl_up {nb ib : Int} {s t : sx_S} {g : rf_Gh} (h : rf_EX nb ib s t) (hM : rf_MI nb ib s g) {u : Int} (hu : 0 ≤ u ∧ u < s.1 66 61) (hs : s.2.1 111 u.toNat ≠ 0) : vr_fl t u = vr_fl s u := by
  obtain ⟨_, _, ⟨⟨c1, c2⟩, _⟩, _⟩ := (hM.1 u hu.1 hu.2).2.2.2 hs
  unfold vr_fl
  rw [h.aa hu.1 hu.2]
  refine List.map_congr_left (fun q hq => ?_)
  have := List.mem_range.mp hq
  exact h.fm hu.1 hu.2 hs c1 (by omega)
/-- a body stays -/
theorem vr_bo_up {nb ib : Int} {s t : sx_S} {g g' : rf_Gh} (h : rf_EX nb ib s t) (hG : rf_EG s g g') (hM : rf_MI nb ib s g) {u : Int} (hu : 0 ≤ u ∧ u < s.1 66 61) (hs : s.2.1 111 u.toNat ≠ 0) : vr_bo t g' u = vr_bo s g u := by
  have e8 := h.1.2.2.2.1
  have e := ((h.2 u.toNat).2.2.2.1 (by omega)).2.2 hs
  obtain ⟨g1, g2⟩ := (hG u hu.1 hu.2).1 hs
  rw [vr_bo_at hu hs, vr_bo_at ⟨hu.1, by omega⟩ (by rw [e.1]; exact hs), g1]
  have : vr_e t g' u = vr_e s g u := by
    funext z
    unfold vr_e
    rw [g2, vr_fl_up h hM hu hs]
  rw [this]
theorem vr_le {nb ib : Int} {s t : sx_S} {g g' : rf_Gh} {AR AR' : Nat → List Int} (h : rf_EX nb ib s t) (hG : rf_EG s g g') (hM : rf_MI nb ib s g) (hA : ∀ j : Nat, (j : Int) < s.1 66 50 → AR' j = AR j) : vx_le (vr_S s g AR) (vr_S t g' AR') := by
  have e8 := h.1.2.2.2.1
  refine ⟨⟨e8, h.1.2.1⟩, fun u h0 hu => ?_, fun u B e hb => ?_, hA⟩
  · have hu' : u < s.1 66 61 := hu
    show vr_ar t u = vr_ar s u
    rw [vr_ar_at ⟨h0, hu'⟩, vr_ar_at ⟨h0, by omega⟩, h.aa h0 hu']
  · have hb' : vr_bo s g u = some (B, e) := hb
    obtain ⟨h1, h2, _, _⟩ := vr_bo_some hb'
    show vr_bo t g' u = some (B, e)
    rw [vr_bo_up h hG hM h1 h2]
    exact hb'
theorem vr_G_up {nb ib : Int} {s t : sx_S} {g g' : rf_Gh} {AR AR' : Nat → List Int} (h : rf_EX nb ib s t) (hG : rf_EG s g g') (hN : rf_NC s t) (hA : ∀ j : Nat, (j : Int) < s.1 66 50 → AR' j = AR j) (k : vr_G s g AR) : vr_G t g' AR' := fun x h0 hm hs => by
  rw [hN.1] at hm
  rw [hN.2 x.toNat (by omega)] at hs
  rw [((hG x h0 hm).1 hs).1]
  exact (vr_t_up h hA).1 (k x h0 hm hs)
/-- nothing was solved: the solutions are the same -/
theorem vr_So_NC {nb ib : Int} {s t : sx_S} {g g' : rf_Gh} {AR AR' : Nat → List Int} {th : Int → rf_N} (hI : cx_I s) (h : rf_EX nb ib s t) (hG : rf_EG s g g') (hN : rf_NC s t) (hM : rf_MI nb ib s g) (hV : vr_G s g AR) (hA : ∀ j : Nat, (j : Int) < s.1 66 50 → AR' j = AR j) : vx_So (vr_S t g' AR') th ↔ vx_So (vr_S s g AR) th := by
  have hle := vr_le h hG hM hA
  constructor
  · exact fun k => vx_So_le (vr_W hI hV) hle k
  · rintro ⟨k1, k2, k3⟩
    refine ⟨k1, fun u h0 hu => ?_, fun u B e hb => ?_⟩
    · have hu' : u < t.1 66 61 := hu
      rw [hN.1] at hu'
      have := k2 u h0 hu'
      have e : (vr_S t g' AR').2.2.1 u = (vr_S s g AR).2.2.1 u := hle.2.1 u h0 hu'
      rw [e]
      exact this
    · have hb' : vr_bo t g' u = some (B, e) := hb
      obtain ⟨⟨h1, h2⟩, h3, _, _⟩ := vr_bo_some hb'
      rw [hN.1] at h2
      rw [hN.2 u.toNat (by omega)] at h3
      rw [vr_bo_up h hG hM ⟨h1, h2⟩ h3] at hb'
      have q := k3 u B e hb'
      have ea : (vr_S t g' AR').2.2.1 u = (vr_S s g AR).2.2.1 u := hle.2.1 u h1 h2
      have iB := (vr_W hI hV u B e hb').2.1
      rw [ea, vx_val_le hle iB]
      exact q
/-! values -/
def vr_V (th : Int → rf_N) (AR : Nat → List Int) (A : rf_N) (y : rf_Y) (L : Int) : rf_N := vx_val th AR (vr_1 A) (rf_look y) L
def vr_X (th : Int → rf_N) (AR : Nat → List Int) (A : rf_N) (y : rf_Y) (L : Int) : rf_N := vx_val th AR (vr_c A) (rf_look y) L
theorem vr_V_up {s : sx_S} {AR AR' : Nat → List Int} (hI : cx_I s) (hA : ∀ j : Nat, (j : Int) < s.1 66 50 → AR' j = AR j) {th : Int → rf_N} {A : rf_N} {y : rf_Y} {L : Int} : (vr_t s AR A → vr_V th AR' A y L = vr_V th AR A y L) ∧ (vr_r s AR A → vr_X th AR' A y L = vr_X th AR A y L) := ⟨fun h => vx_val_th (fun _ _ => rfl) (fun j hj => hA j (((vr_in (g := (fun _ => .leaf, fun _ => .leaf, fun _ _ => True)) hI).1 h).2.1 j hj)), fun h => vx_val_th (fun _ _ => rfl) (fun j hj => hA j (((vr_in (g := (fun _ => .leaf, fun _ => .leaf, fun _ _ => True)) hI).2 h).2.1 j hj))⟩
theorem vr_V_ag {s : sx_S} {AR AR' : Nat → List Int} (hI : cx_I s) {th th' : Int → rf_N} (ha : vx_ag (s.1 66 61) th th') {A : rf_N} {y : rf_Y} {L : Int} : (vr_t s AR' A → vr_V th' AR A y L = vr_V th AR A y L) ∧ (vr_r s AR' A → vr_X th' AR A y L = vr_X th AR A y L) := ⟨fun h => vx_val_th (fun m hm => by
    have h2 := ((vr_in (g := (fun _ => .leaf, fun _ => .leaf, fun _ _ => True)) hI).1 h).1 m hm
    exact ha m h2.1 h2.2) (fun _ _ => rfl), fun h => vx_val_th (fun m hm => by
    have h2 := ((vr_in (g := (fun _ => .leaf, fun _ => .leaf, fun _ _ => True)) hI).2 h).1 m hm
    exact ha m h2.1 h2.2) (fun _ _ => rfl)⟩
/-- more variables are made: the same values but for the new numbers -/
theorem vr_sh {th : Int → rf_N} {AR : Nat → List Int} (hg : vx_gd th) {A : rf_N} {e : Int → Int} {L L' : Int} (h : ∀ z, vx_fv (fun _ _ => True) AR z A → e z < L ∧ e z < L') : vx_re (fun v => if v < L ∧ v < L' then v else v - L + L') (vx_val th AR A e L) = vx_val th AR A e L' := by
  rw [vx_val_re hg (L' := L') (fun i hi => by
    try dsimp only
    rw [if_neg (by omega)]
    omega)]
  refine vx_val_cg hg (fun z hz => ?_)
  have := h z (vx_fv_mono (fun _ _ _ => trivial) hz)
  show (if e z < L ∧ e z < L' then e z else e z - L + L') = e z
  rw [if_pos this]
theorem vr_shE {th : Int → rf_N} {AR : Nat → List Int} (hg : vx_gd th) {A B : rf_N} {e d : Int → Int} {L L' : Int} (h : ∀ z, vx_fv (fun _ _ => True) AR z A → e z < L ∧ e z < L') (h' : ∀ z, vx_fv (fun _ _ => True) AR z B → d z < L ∧ d z < L') (q : vx_val th AR A e L = vx_val th AR B d L) : vx_val th AR A e L' = vx_val th AR B d L' := by
  rw [← vr_sh hg h, ← vr_sh hg h', q]
theorem vr_up (y : rf_Y) (x L : Int) : vx_up (rf_look y) x L = rf_look (rf_one x L y) := by
  funext v
  show (if v = x then L else rf_look y v) = (if x = v then L else rf_look y v)
  by_cases c : v = x
  · rw [if_pos c, if_pos c.symm]
  · rw [if_neg c, if_neg (fun z => c z.symm)]
theorem vr_V_lam {th : Int → rf_N} {AR : Nat → List Int} {j : Nat} {q : Int × Int} {u : Unit} {f x : rf_N} {y : rf_Y} {L : Int} (h : q.1 = 0) : vr_V th AR (.inner j q u f x) y L = rf_n 0 0 0 (vr_V th AR f (rf_one q.2 L y) (L + 1)) .leaf := by
  unfold vr_V
  rw [vr_1_in, vx_val_in, if_pos h, vr_f_0 h, vr_up]
  rfl
theorem vr_V_rig {th : Int → rf_N} {AR : Nat → List Int} {j : Nat} {q : Int × Int} {u : Unit} {f x : rf_N} {y : rf_Y} {L : Int} (h : q.1 = 1 ∨ q.1 = 2) : vr_V th AR (.inner j q u f x) y L = rf_n 0 q.1 (if q.1 = 2 then rf_look y q.2 else q.2) (vr_X th AR f y L) .leaf := by
  unfold vr_V vr_X
  rw [vr_1_in, vx_val_in, if_neg (by omega), if_neg (by omega), vr_f_2 h]
  rfl
theorem vr_V_call {th : Int → rf_N} {AR : Nat → List Int} (hg : ∀ m, vx_on (th m)) {j : Nat} {q : Int × Int} {u : Unit} {f x : rf_N} {y : rf_Y} {L : Int} (h : q.1 = 3) : vr_V th AR (.inner j q u f x) y L = vx_re (vx_ix ((AR j).map (rf_look y)) L) (th q.2) := by
  unfold vr_V
  rw [vr_1_in, vr_f_3 h]
  obtain ⟨q1, q2⟩ := q
  have h' : q1 = 3 := h
  subst h'
  exact vx_call hg
theorem vr_V_on {th : Int → rf_N} {AR : Nat → List Int} (hg : ∀ m, vx_on (th m)) {A : rf_N} {y : rf_Y} {L : Int} (h : A ≠ .leaf) : vx_on (vr_V th AR A y L) := by
  unfold vr_V
  rw [← vr_1_1]
  exact vx_val_on hg (vr_1_ne h)
theorem vr_X_c {th : Int → rf_N} {AR : Nat → List Int} (hg : ∀ m, vx_on (th m)) {j : Nat} {q : Int × Int} {u : Unit} {f x : rf_N} {y : rf_Y} {L : Int} : vr_X th AR (.inner j q u f x) y L = vx_sb (vr_V th AR (.inner j q u f x) y L) (vr_X th AR x y L) := by
  unfold vr_X vr_V
  rw [vr_c_in, vr_1_in, vx_val_1 hg]
/-- two rows -/
theorem vr_X_eq {th : Int → rf_N} {AR : Nat → List Int} (hg : ∀ m, vx_on (th m)) {j j' : Nat} {q q' : Int × Int} {u u' : Unit} {f x f' x' : rf_N} {y y' : rf_Y} {L : Int} : vr_X th AR (.inner j q u f x) y L = vr_X th AR (.inner j' q' u' f' x') y' L ↔ vr_V th AR (.inner j q u f x) y L = vr_V th AR (.inner j' q' u' f' x') y' L ∧ vr_X th AR x y L = vr_X th AR x' y' L := by
  rw [vr_X_c hg, vr_X_c hg]
  constructor
  · exact fun h => vx_sb_on (vr_V_on hg (fun z => by cases z)) (vr_V_on hg (fun z => by cases z)) h
  · rintro ⟨h1, h2⟩
    rw [h1, h2]
/-- a solved unknown is entered -/
theorem vr_V_en {nb ib : Int} {s : sx_S} {g : rf_Gh} {AR : Nat → List Int} {th : Int → rf_N} (hI : cx_I s) (hM : rf_MI nb ib s g) (hS : vx_So (vr_S s g AR) th) {j : Nat} {kk : Int × Int} {u : Unit} {f n : rf_N} {y : rf_Y} {L i : Int} (k3 : kk.1 = 3) (hp : vr_p s AR j kk.2) (hs : s.2.1 111 kk.2.toNat ≠ 0) (hi : i.toNat = j) : vr_V th AR (.inner j kk u f n) y L = vr_V th AR (g.1 kk.2) (rf_bh (g.2.1 kk.2) (rf_row (rf_fm s kk.2) (rf_vo s y i) (rf_aa s kk.2).toNat)) L := by
  obtain ⟨⟨_, hr, _⟩, hq⟩ := hp
  have hMX := hM.1 kk.2 hr.1 hr.2
  have hSV := hMX.2.2.2 hs
  have c5 := hSV.2.2.1.2.2.2
  have a0 := vr_aa0 hI kk.2
  unfold vr_V
  rw [vr_1_in, vr_f_3 k3]
  obtain ⟨k1, k2⟩ := kk
  have h' : k1 = 3 := k3
  subst h'
  refine vx_call_body hS (S := vr_S s g AR) (em := vr_e s g k2) (vr_bo_at hr hs) ?_ ?_ ?_
  · show ((AR j).length : Int) = vr_ar s k2
    rw [hq, vr_ar_at hr]
    unfold vr_rw
    rw [vr_gl]
    have a0' : 0 ≤ rf_aa s k2 := a0.1
    omega
  · intro z
    show vr_e s g k2 z < vr_ar s k2
    rw [vr_ar_at hr]
    exact vr_e_lt hI g k2 z
  · intro z hz
    obtain ⟨q, q1, q2, q3⟩ := vr_e_nn hz
    show rf_look (rf_bh (g.2.1 k2) (rf_row (rf_fm s k2) (rf_vo s y i) (rf_aa s k2).toNat)) z = ((AR j).map (rf_look y)).getD (vr_e s g k2 z).toNat (-1)
    rw [rf_bh_look, q3, rf_row_look (fun a b ha hb => c5 a b (by dsimp only; omega) (by dsimp only; omega)) (by omega), q2, Int.toNat_natCast]
    have e1 : ((AR j).map (rf_look y))[q]? = some (rf_look y (rf_rv1 s j q)) := by
      rw [List.getElem?_map, hq]
      have : (vr_rw s j k2)[q]? = some (rf_rv1 s j q) := vr_gr.mpr ⟨by omega, rfl⟩
      rw [this]
      rfl
    rw [vx_getD e1]
    unfold rf_vo rf_rv1
    rw [hi]
/-- all variables of a node under names are made -/
theorem vr_rng {s : sx_S} {g : rf_Gh} {AR : Nat → List Int} {N : Int → rf_T → Prop} {A : rf_N} {y : rf_Y} {x : rf_T} {W : List Nat} {p : Nat} {i b : Int} (k : rf_CL s g N A y x W p i b) (h : vr_t s AR A) : ∀ z, vx_fv (fun _ _ => True) AR z (vr_1 A) → 0 ≤ rf_look y z ∧ rf_look y z < s.1 66 58 := fun z hz => by
  obtain ⟨⟨a1, a2, a3, a4⟩, _⟩ := k
  have hbn := (rf_bn_gn a1).1 _ a2
  have h1 := (vr_fv (s := s) (AR := AR) (V := fun _ _ => True) (U := fun r q => (q : Int) < rf_aa s r) (fun _ _ hi _ => hi)).1 h hz
  have h2 := (rf_am_mono (p := rf_bn s) (p' := fun j r => ∀ v, rf_Wd s (fun r q => (q : Int) < rf_aa s r) j r v → ∃ q : Nat, (q : Int) < rf_aa s r ∧ v = rf_rv1 s j q) (n := A) (fun j _ r hb v hv => hv)).1 hbn
  obtain ⟨T, hT⟩ := rf_fo_ty.1 _ a2 h2 z h1
  exact (a4.2.2.1 z T hT).1
theorem vr_rngR {s : sx_S} {g : rf_Gh} {AR : Nat → List Int} {N : Int → rf_T → Prop} {A : rf_N} {y : rf_Y} {x : rf_T} {W : List Nat} {p : Nat} {i b : Int} (k : rf_CR s g N A y x W p i b) (h : vr_r s AR A) : ∀ z, vx_fv (fun _ _ => True) AR z (vr_c A) → 0 ≤ rf_look y z ∧ rf_look y z < s.1 66 58 := fun z hz => by
  obtain ⟨⟨a1, a2, a3, a4⟩, _⟩ := k
  have hbn := (rf_bn_gn a1).2 _ _ a2
  have h1 := (vr_fv (s := s) (AR := AR) (V := fun _ _ => True) (U := fun r q => (q : Int) < rf_aa s r) (fun _ _ hi _ => hi)).2 h hz
  have h2 := (rf_am_mono (p := rf_bn s) (p' := fun j r => ∀ v, rf_Wd s (fun r q => (q : Int) < rf_aa s r) j r v → ∃ q : Nat, (q : Int) < rf_aa s r ∧ v = rf_rv1 s j q) (n := A) (fun j _ r hb v hv => hv)).2 hbn
  obtain ⟨T, hT⟩ := rf_fo_ty.2 _ _ a2 h2 z h1
  exact (a4.2.2.1 z T hT).1
end
section
/-! ===== solving: what a step does to the solutions ===== -/
/-- solved: just the solutions of S with P are left -/
def vr_Y (S T : vx_S) (P : (Int → rf_N) → Prop) : Prop := True → vx_le S T ∧ (∀ th, vx_So T th → P th) ∧ ∀ th, vx_So S th → P th → ∃ th', vx_So T th' ∧ vx_ag S.1 th th'
def vr_N (S : vx_S) (P : (Int → rf_N) → Prop) : Prop := ∀ th, vx_So S th → ¬ P th
/-- those with P are still there -/
def vr_Z (S T : vx_S) (P : (Int → rf_N) → Prop) : Prop := True → vx_le S T ∧ ∀ th, vx_So S th → P th → ∃ th', vx_So T th' ∧ vx_ag S.1 th th'
theorem vr_ag_refl (n : Int) (th : Int → rf_N) : vx_ag n th th := fun _ _ _ => rfl
theorem vr_ag_tr {n n' : Int} {a b c : Int → rf_N} (hn : n ≤ n') (h1 : vx_ag n a b) (h2 : vx_ag n' b c) : vx_ag n a c := fun u h0 hu => (h2 u h0 (by omega)).trans (h1 u h0 hu)
theorem vr_Y_cg {S T : vx_S} {P P' : (Int → rf_N) → Prop} (hW : vx_W S) (h : ∀ th, vx_So S th → (P th ↔ P' th)) (k : vr_Y S T P) : vr_Y S T P' := fun _ => by
  obtain ⟨k1, k2, k3⟩ := k trivial
  exact ⟨k1, fun th hT => (h th (vx_So_le hW k1 hT)).mp (k2 th hT), fun th hS hp => k3 th hS ((h th hS).mpr hp)⟩
theorem vr_N_cg {S : vx_S} {P P' : (Int → rf_N) → Prop} (h : ∀ th, vx_So S th → (P' th → P th)) (k : vr_N S P) : vr_N S P' := fun th hS hp => k th hS (h th hS hp)
theorem vr_Y_refl {S : vx_S} {P : (Int → rf_N) → Prop} (h : ∀ th, vx_So S th → P th) : vr_Y S S P := fun _ => ⟨vx_le_refl S, h, fun th hS _ => ⟨th, hS, vr_ag_refl _ _⟩⟩
theorem vr_Z_refl {S : vx_S} {P : (Int → rf_N) → Prop} : vr_Z S S P := fun _ => ⟨vx_le_refl S, fun th hS _ => ⟨th, hS, vr_ag_refl _ _⟩⟩
theorem vr_Z_cg {S T : vx_S} {P P' : (Int → rf_N) → Prop} (h : ∀ th, vx_So S th → P' th → P th) (k : vr_Z S T P) : vr_Z S T P' := fun _ => ⟨(k trivial).1, fun th hS hp => (k trivial).2 th hS (h th hS hp)⟩
/-- an open unknown before two rows -/
theorem vr_meet {S T : vx_S} {m L : Int} {J : Nat} {eu : Int → Int} {zs ks xs ys : List Int} (hW : vx_W S) (hn : vx_nw S T m J .leaf eu zs ks) (lx : (xs.length : Int) = S.2.2.1 m) (ly : (ys.length : Int) = S.2.2.1 m) (hk : ∀ i : Nat, (i : Int) < S.2.2.1 m → ((i : Int) ∈ ks ↔ xs[i]? = ys[i]?)) : vr_Y S T (fun th => vx_re (vx_ix xs L) (th m) = vx_re (vx_ix ys L) (th m)) := fun _ => by
  have hl : xs.length = ys.length := by omega
  refine ⟨vx_nw_le hn, fun th hT => ?_, fun th hS hp => vx_nw_So hn hW hS (fun v hv hl' => ?_)⟩
  · exact (vx_same hT.1 hl).mpr (fun i hi' ho => (hk i (by omega)).mp (vx_nw_us hn hT i ho (by omega)))
  · have v0 := (hS.1 m).2 v hv
    have h1 := (vx_same hS.1 hl).mp hp v.toNat (by omega) (by rw [Int.toNat_of_nonneg v0]; exact hv)
    have h2 := (hk v.toNat (by omega)).mpr h1
    rw [Int.toNat_of_nonneg v0] at h2
    exact h2
/-- two open unknowns -/
theorem vr_join {S S1 T : vx_S} {m n L : Int} {J : Nat} {em en : Int → Int} {zs ks xs ys : List Int} (hW : vx_W S) (hn : vx_nw S S1 m J .leaf em zs ks) (hg : vx_gv S1 T n (rf_n J 3 S.1 .leaf .leaf) en) (hn0 : 0 ≤ n ∧ n < S.1) (hL : 0 ≤ L) (lx : (xs.length : Int) = S.2.2.1 m) (ly : (ys.length : Int) = S.2.2.1 n) (ny : ys.Nodup) (hx : ∀ x ∈ xs, x < L) (hy : ∀ y ∈ ys, 0 ≤ y ∧ y < L) (hz : ∀ z ∈ zs, z < L) (hem : ∀ z, 0 ≤ em z → z = xs.getD (em z).toNat (-1)) (hen : ∀ z, 0 ≤ en z → z = ys.getD (en z).toNat (-1)) (hen2 : ∀ z (i : Nat), ys[i]? = some z → en z = (i : Int)) (hk : ∀ (i : Nat) z, xs[i]? = some z → z ∈ ys → (i : Int) ∈ ks) : vr_Y S T (fun th => vx_re (vx_ix xs L) (th m) = vx_re (vx_ix ys L) (th n)) := fun _ => by
  have hle1 := vx_nw_le hn
  have hle2 := vx_gv_le hg
  have hW1 := vx_nw_W hn hW
  have hn' := hn
  obtain ⟨⟨a1, a2, a3, a4, a5⟩, ⟨b1, b2, b3, b4⟩, c, d, f, g1, g2, g3, g4, g5⟩ := hn'
  have hg' := hg
  obtain ⟨⟨o1, o2, o3, o4⟩, ⟨p1, p2, p3⟩, pc, _, po⟩ := hg'
  have em1 : S1.2.2.1 m = S.2.2.1 m := by rw [c, if_neg (by omega)]
  have en1 : S1.2.2.1 n = S.2.2.1 n := by rw [c, if_neg (by omega)]
  have bm : S1.2.2.2.1 m = some (rf_n J 3 S.1 .leaf .leaf, em) := by rw [d, if_pos rfl]
  have bn : T.2.2.2.1 n = some (rf_n J 3 S.1 .leaf .leaf, en) := by rw [pc, if_pos rfl]
  have key1 : ∀ th, vx_So S1 th → vx_re (vx_ix xs L) (th m) = vx_val th S1.2.2.2.2 (rf_n J 3 S.1 .leaf .leaf) (fun z => z) L := fun th h1 => vx_enter h1.1 (e := em) (by
    have := h1.2.2 m _ _ bm
    rw [em1, ← lx] at this
    exact this) (fun z => by rw [lx]; exact g5 z) hem
  refine ⟨vx_le_trans hle1 hle2, fun th hT => ?_, fun th hS hp => ?_⟩
  · show vx_re (vx_ix xs L) (th m) = vx_re (vx_ix ys L) (th n)
    rw [key1 th (vx_So_le hW1 hle2 hT)]
    refine (vx_enter hT.1 (e := en) (AR := S1.2.2.2.2) ?_ (fun z => ?_) hen).symm
    · have := hT.2.2 n _ _ bn
      rw [o3, o4, en1, ← ly] at this
      exact this
    · have := po z
      rw [en1, ← ly] at this
      exact this
  · obtain ⟨th', h1, hag⟩ := vx_nw_So hn hW hS (fun v hv hl => by
      have v0 := (hS.1 m).2 v hv
      have hi : v.toNat < xs.length := by omega
      have hz1 := List.getElem?_eq_getElem hi
      have ho : vx_oc xs[v.toNat] (vx_re (vx_ix xs L) (th m)) := vx_oc_re.mpr ⟨v, hv, by
        unfold vx_ix
        rw [if_pos (by omega), vx_getD hz1]⟩
      rw [hp] at ho
      obtain ⟨w, w1, w2⟩ := vx_oc_re.mp ho
      have w0 := (hS.1 n).2 w w1
      have hlt := hx _ (List.mem_of_getElem? hz1)
      unfold vx_ix at w2
      by_cases cw : w < (ys.length : Int)
      · rw [if_pos cw] at w2
        have hw := List.getElem?_eq_getElem (show w.toNat < ys.length by omega)
        rw [vx_getD hw] at w2
        have := hk v.toNat _ hz1 (by rw [← w2]; exact List.mem_of_getElem? hw)
        rw [Int.toNat_of_nonneg v0] at this
        exact this
      · rw [if_neg cw] at w2
        omega)
    have hpm : th' m = th m := hag m b3 b4
    have hpn : th' n = th n := hag n hn0.1 hn0.2
    refine ⟨th', vx_gv_So hg h1 ?_, hag⟩
    have hfin : vx_re (vx_ix ys L) (th' n) = vx_val th' S1.2.2.2.2 (rf_n J 3 S.1 .leaf .leaf) (fun z => if z < L then z else -1) L := by
      have e1 : vx_re (vx_ix ys L) (th' n) = vx_re (vx_ix xs L) (th' m) := by rw [hpm, hpn]; exact hp.symm
      rw [e1, key1 th' h1]
      refine vx_val_cg h1.1 (fun z hz' => ?_)
      show z = if z < L then z else -1
      rcases hz' with (⟨q, _⟩ | ⟨_, i, i1, _⟩ | ⟨_, q, _⟩) | q
      · exact absurd q vx_30
      · rw [g1] at i1
        rw [if_pos (hz z (List.mem_of_getElem? i1))]
      · exact absurd rfl q
      · exact q.elim
    have := vx_bind (u := n) (xs := ys) (L := L) (e := fun z => if z < L then z else -1) (eu := en) (AR := S1.2.2.2.2) h1.1 (by
      have := h1.2.1 n p2 p3
      rw [en1, ← ly] at this
      exact this) ny (fun y h => (hy y h).2) (fun z => by
      try dsimp only
      by_cases cz : z < L
      · rw [if_pos cz]
        exact cz
      · rw [if_neg cz]
        omega) (fun z i hi => by
      try dsimp only at hi
      by_cases cz : z < L
      · rw [if_pos cz] at hi
        exact hen2 z i hi
      · rw [if_neg cz] at hi
        have := (hy _ (List.mem_of_getElem? hi)).1
        omega) hfin
    rw [en1, ← ly]
    exact this
/-- an unknown is given a body -/
theorem vr_bind {S T : vx_S} {m L : Int} {xs : List Int} {B : rf_N} {d eu : Int → Int} (hg : vx_gv S T m B eu) (hL : 0 ≤ L) (lx : (xs.length : Int) = S.2.2.1 m) (nx : xs.Nodup) (hx : ∀ x ∈ xs, 0 ≤ x ∧ x < L) (hd : ∀ z, vx_fv (fun _ _ => True) S.2.2.2.2 z B → d z < L) (h1 : ∀ z, 0 ≤ eu z → d z = xs.getD (eu z).toNat (-1)) (h2 : ∀ z (i : Nat), xs[i]? = some (d z) → eu z = (i : Int)) : (∀ th, vx_So T th → vx_re (vx_ix xs L) (th m) = vx_val th S.2.2.2.2 B d L) ∧ ∀ th, vx_So S th → vx_re (vx_ix xs L) (th m) = vx_val th S.2.2.2.2 B d L → vx_So T th := by
  have hg' := hg
  obtain ⟨⟨o1, o2, o3, o4⟩, ⟨p1, p2, p3⟩, pc, _, po⟩ := hg'
  have bm : T.2.2.2.1 m = some (B, eu) := by rw [pc, if_pos rfl]
  refine ⟨fun th hT => vx_enter hT.1 (e := eu) ?_ (fun z => by rw [lx]; exact po z) h1, fun th hS hp => vx_gv_So hg hS ?_⟩
  · have := hT.2.2 m _ _ bm
    rw [o3, o4, ← lx] at this
    exact this
  · have e1 : vx_val th S.2.2.2.2 B d L = vx_val th S.2.2.2.2 B (fun z => if d z < L then d z else -1) L := vx_val_cg hS.1 (fun z hz => by
      try dsimp only
      rw [if_pos (hd z (vx_fv_mono (fun _ _ _ => trivial) hz))])
    rw [e1] at hp
    have := vx_bind (u := m) (xs := xs) (L := L) (e := fun z => if d z < L then d z else -1) (eu := eu) (AR := S.2.2.2.2) hS.1 (by
      have := hS.2.1 m p2 p3
      rw [← lx] at this
      exact this) nx (fun y h => (hx y h).2) (fun z => by
      try dsimp only
      by_cases cz : d z < L
      · rw [if_pos cz]
        exact cz
      · rw [if_neg cz]
        omega) (fun z i hi => by
      try dsimp only at hi
      by_cases cz : d z < L
      · rw [if_pos cz] at hi
        exact h2 z i hi
      · rw [if_neg cz] at hi
        have := (hx _ (List.mem_of_getElem? hi)).1
        omega) hp
    rw [← lx]
    exact this
/-! what a solution asks of what is looked through: only what is allowed stands in it; the unknown m is larger -/
def vr_K (al : Int → Prop) (m : Int) (AR : Nat → List Int) (A : rf_N) (y : rf_Y) (L : Int) (th : Int → rf_N) : Prop := (∀ w, vx_oc w (vr_V th AR A y L) → al w) ∧ vx_sz (vr_V th AR A y L) ≤ vx_sz (th m) ∧ (rf_k3 A → vx_sz (vr_V th AR A y L) < vx_sz (th m))
def vr_Kr (al : Int → Prop) (m : Int) (AR : Nat → List Int) (A : rf_N) (y : rf_Y) (L : Int) (th : Int → rf_N) : Prop := (∀ w, vx_oc w (vr_X th AR A y L) → al w) ∧ vx_sz (vr_X th AR A y L) < vx_sz (th m)
theorem vr_sz_n {k h : Int} {F : rf_N} : vx_sz (rf_n 0 k h F .leaf) = 1 + vx_sz F := rfl
theorem vr_K_lam {al : Int → Prop} {m : Int} {th : Int → rf_N} {AR : Nat → List Int} {j : Nat} {q : Int × Int} {u : Unit} {f x : rf_N} {y : rf_Y} {L : Int} (h : q.1 = 0) (k : vr_K al m AR (.inner j q u f x) y L th) : vr_K al m AR f (rf_one q.2 L y) (L + 1) th := by
  obtain ⟨k1, k2, _⟩ := k
  rw [vr_V_lam h] at k1 k2
  rw [vr_sz_n] at k2
  exact ⟨fun w hw => k1 w (Or.inr (Or.inl hw)), by omega, fun _ => by omega⟩
theorem vr_K_rig {al : Int → Prop} {m : Int} {th : Int → rf_N} {AR : Nat → List Int} {j : Nat} {q : Int × Int} {u : Unit} {f x : rf_N} {y : rf_Y} {L : Int} (h : q.1 = 1 ∨ q.1 = 2) (k : vr_K al m AR (.inner j q u f x) y L th) : vr_Kr al m AR f y L th ∧ (q.1 = 2 → al (rf_look y q.2)) := by
  obtain ⟨k1, k2, _⟩ := k
  rw [vr_V_rig h] at k1 k2
  rw [vr_sz_n] at k2
  refine ⟨⟨fun w hw => k1 w (Or.inr (Or.inl hw)), by omega⟩, fun c => k1 _ (Or.inl ⟨c, ?_⟩)⟩
  show (if q.1 = 2 then rf_look y q.2 else q.2) = rf_look y q.2
  rw [if_pos c]
theorem vr_Kr_c {al : Int → Prop} {m : Int} {th : Int → rf_N} (hg : ∀ m, vx_on (th m)) {AR : Nat → List Int} {j : Nat} {q : Int × Int} {u : Unit} {f x : rf_N} {y : rf_Y} {L : Int} (k : vr_Kr al m AR (.inner j q u f x) y L th) : vr_K al m AR (.inner j q u f x) y L th ∧ vr_Kr al m AR x y L th := by
  obtain ⟨k1, k2⟩ := k
  have ho := vr_V_on hg (AR := AR) (A := .inner j q u f x) (y := y) (L := L) (fun z => by cases z)
  rw [vr_X_c hg] at k1 k2
  rw [vx_sz_sb ho] at k2
  exact ⟨⟨fun w hw => k1 w ((vx_oc_sb ho).mpr (Or.inl hw)), by omega, fun _ => by omega⟩, ⟨fun w hw => k1 w ((vx_oc_sb ho).mpr (Or.inr hw)), by omega⟩⟩
theorem vr_K_self {al : Int → Prop} {m : Int} {th : Int → rf_N} (hg : ∀ m, vx_on (th m)) {AR : Nat → List Int} {j : Nat} {q : Int × Int} {u : Unit} {f x : rf_N} {y : rf_Y} {L : Int} (h : q.1 = 3) (hm : q.2 = m) : ¬ vr_K al m AR (.inner j q u f x) y L th := fun k => by
  have := k.2.2 h
  rw [vr_V_call hg h, vx_sz_re, hm] at this
  omega
theorem vr_K_en {al : Int → Prop} {m : Int} {th : Int → rf_N} {AR : Nat → List Int} {A B : rf_N} {y y' : rf_Y} {L : Int} (h3 : rf_k3 A) (e : vr_V th AR A y L = vr_V th AR B y' L) (k : vr_K al m AR A y L th) : vr_K al m AR B y' L th := by
  obtain ⟨k1, k2, k3⟩ := k
  have k3 := k3 h3
  rw [e] at k1 k2 k3
  exact ⟨k1, k2, fun _ => k3⟩
theorem vr_K_nw {al : Int → Prop} {m : Int} {th : Int → rf_N} (hg : vx_gd th) {AR : Nat → List Int} {j : Nat} {q : Int × Int} {u : Unit} {f x : rf_N} {y : rf_Y} {L : Int} (h : q.1 = 3) (k : vr_K al m AR (.inner j q u f x) y L th) {v : Nat} {z : Int} (hv : vx_oc (v : Int) (th q.2)) (hz : (AR j)[v]? = some z) : al (rf_look y z) := by
  refine k.1 _ ?_
  rw [vr_V_call (fun m => (hg m).1) h]
  refine vx_oc_re.mpr ⟨v, hv, ?_⟩
  have h1 := (List.getElem?_eq_some_iff.mp hz).1
  unfold vx_ix
  rw [List.length_map, if_pos (by omega), Int.toNat_natCast]
  exact vx_getD (by rw [List.getElem?_map, hz]; rfl)
theorem vr_K_0 {al : Int → Prop} {m : Int} {th : Int → rf_N} (hg : vx_gd th) {AR : Nat → List Int} {A : rf_N} {y : rf_Y} {L : Int} {xs : List Int} (hx : ∀ x ∈ xs, al x) (hL : ∀ w, L ≤ w → al w) (h3 : ¬ rf_k3 A) (e : vx_re (vx_ix xs L) (th m) = vr_V th AR A y L) : vr_K al m AR A y L th := by
  refine ⟨fun w hw => ?_, ?_, fun c => absurd c h3⟩
  · rw [← e] at hw
    obtain ⟨v, v1, v2⟩ := vx_oc_re.mp hw
    have v0 := (hg m).2 v v1
    unfold vx_ix at v2
    by_cases c : v < (xs.length : Int)
    · rw [if_pos c] at v2
      have h1 := List.getElem?_eq_getElem (show v.toNat < xs.length by omega)
      rw [vx_getD h1] at v2
      rw [← v2]
      exact hx _ (List.mem_of_getElem? h1)
    · rw [if_neg c] at v2
      exact hL w (by omega)
  · rw [← e, vx_sz_re]
    exact Nat.le_refl _
theorem vr_K_up {s : sx_S} {AR AR' : Nat → List Int} (hI : cx_I s) (hA : ∀ j : Nat, (j : Int) < s.1 66 50 → AR' j = AR j) {al al' : Int → Prop} (ha : ∀ w, al w → al' w) {m : Int} {th : Int → rf_N} {A : rf_N} {y : rf_Y} {L : Int} : (vr_t s AR A → vr_K al m AR A y L th → vr_K al' m AR' A y L th) ∧ (vr_r s AR A → vr_Kr al m AR A y L th → vr_Kr al' m AR' A y L th) := by
  constructor
  · rintro h ⟨k1, k2, k3⟩
    unfold vr_K
    rw [(vr_V_up hI hA).1 h]
    exact ⟨fun w hw => ha w (k1 w hw), k2, k3⟩
  · rintro h ⟨k1, k2⟩
    unfold vr_Kr
    rw [(vr_V_up hI hA).2 h]
    exact ⟨fun w hw => ha w (k1 w hw), k2⟩
theorem vr_K_ag {s : sx_S} {AR AR' : Nat → List Int} (hI : cx_I s) {al : Int → Prop} {m : Int} (hm : 0 ≤ m ∧ m < s.1 66 61) {th th' : Int → rf_N} (hag : vx_ag (s.1 66 61) th th') {A : rf_N} {y : rf_Y} {L : Int} : (vr_t s AR' A → vr_K al m AR A y L th → vr_K al m AR A y L th') ∧ (vr_r s AR' A → vr_Kr al m AR A y L th → vr_Kr al m AR A y L th') := by
  constructor
  · rintro h ⟨k1, k2, k3⟩
    unfold vr_K
    rw [(vr_V_ag hI hag).1 h, hag m hm.1 hm.2]
    exact ⟨k1, k2, k3⟩
  · rintro h ⟨k1, k2⟩
    unfold vr_Kr
    rw [(vr_V_ag hI hag).2 h, hag m hm.1 hm.2]
    exact ⟨k1, k2⟩
theorem vr_S_EG {t : sx_S} {g g' : rf_Gh} {AR : Nat → List Int} (h : rf_EG t g g') : vr_S t g' AR = vr_S t g AR := by
  have : vr_bo t g' = vr_bo t g := by
    funext u
    by_cases c : (0 ≤ u ∧ u < t.1 66 61) ∧ t.2.1 111 u.toNat ≠ 0
    · obtain ⟨h1, h2⟩ := (h u c.1.1 c.1.2).1 c.2
      rw [vr_bo_at c.1 c.2, vr_bo_at c.1 c.2, h1]
      have : vr_e t g' u = vr_e t g u := by
        funext z
        unfold vr_e
        rw [h2]
      rw [this]
    · unfold vr_bo
      rw [if_neg c, if_neg c]
  unfold vr_S
  rw [this]
end
section
/-! ===== the reference: memory, when an unknown becomes a new one ===== -/
theorem vr_S_NC {nb ib : Int} {s t : sx_S} {g : rf_Gh} {AR : Nat → List Int} (h : rf_EX nb ib s t) (hN : rf_NC s t) (h50 : t.1 66 50 = s.1 66 50) (hM : rf_MI nb ib s g) : vr_S t g AR = vr_S s g AR := by
  have e1 : vr_ar t = vr_ar s := by
    funext u
    by_cases c : 0 ≤ u ∧ u < s.1 66 61
    · rw [vr_ar_at c, vr_ar_at ⟨c.1, by rw [hN.1]; exact c.2⟩, h.aa c.1 c.2]
    · unfold vr_ar
      rw [hN.1, if_neg c, if_neg c]
  have e2 : vr_bo t g = vr_bo s g := by
    funext u
    by_cases c : 0 ≤ u ∧ u < s.1 66 61
    · by_cases cs : s.2.1 111 u.toNat = 0
      · rw [vr_bo_no cs, vr_bo_no (by rw [hN.2 u.toNat (by omega)]; exact cs)]
      · exact vr_bo_up h (rf_EG_refl s g) hM c cs
    · rw [vr_bo_out c, vr_bo_out (by rw [hN.1]; exact c)]
  unfold vr_S
  rw [e1, e2, hN.1, h50]
theorem vr_hd {nb ib : Int} {t : sx_S} {g' : rf_Gh} (hM : rf_MI nb ib t g') {x h : Int} {J : Nat} (hx : 0 ≤ x ∧ x < t.1 66 61) (hs : t.2.1 111 x.toNat ≠ 0) (e113 : t.2.1 113 x.toNat = (J : Int)) (e114 : t.2.1 114 x.toNat = -1) (hk : t.2.1 100 J = 3 ∧ t.2.1 101 J = h ∧ t.2.1 102 J = -1 ∧ t.2.1 103 J = -1) : g'.1 x = rf_n J 3 h .leaf .leaf ∧ g'.2.1 x = .leaf := by
  obtain ⟨⟨a1, _⟩, ⟨b1, _⟩, _⟩ := (hM.1 x hx.1 hx.2).2.2.2 hs
  rw [e113] at a1
  rw [e114] at b1
  constructor
  · obtain ⟨f, n, q1, _, _, q4, q5⟩ := rf_nd_cons a1 (by omega)
    rw [Int.toNat_natCast] at q1 q4 q5
    rw [hk.2.2.1] at q4
    rw [hk.2.2.2] at q5
    rw [q1, hk.1, hk.2.1, rf_nd_nil q4 rfl, rf_nd_nil q5 rfl]
  · cases hy : g'.2.1 x with
    | leaf => rfl
    | inner n k u l r =>
      rw [hy] at b1
      cases n with
      | zero =>
        have := b1.1.1
        omega
      | succ n =>
        have := b1.1.1
        omega
/-- the new node's row -/
def vr_nA (s : sx_S) (AR : Nat → List Int) (zs : List Int) (j : Nat) : List Int := if j = (s.1 66 50).toNat then zs else AR j
theorem vr_nA_lt {s : sx_S} {AR : Nat → List Int} {zs : List Int} : ∀ j : Nat, (j : Int) < s.1 66 50 → vr_nA s AR zs j = AR j := fun j hj => if_neg (by omega)
/-- the unknowns D have become the new one, whose row is zf -/
def vr_H1 (D : Int → Prop) (zf : Nat → Int) (n : Nat) (s t : sx_S) : Prop := (t.1 66 61 = s.1 66 61 + 1 ∧ t.1 66 50 = s.1 66 50 + 1 ∧ 0 ≤ s.1 66 50 ∧ 0 ≤ s.1 66 61) ∧ (∀ x : Int, 0 ≤ x → x < s.1 66 61 → ¬ D x → t.2.1 111 x.toNat = s.2.1 111 x.toNat) ∧ t.2.1 111 (s.1 66 61).toNat = 0 ∧ (∀ x : Int, D x → (0 ≤ x ∧ x < s.1 66 61) ∧ s.2.1 111 x.toNat = 0 ∧ t.2.1 111 x.toNat ≠ 0 ∧ t.2.1 113 x.toNat = s.1 66 50 ∧ t.2.1 114 x.toNat = -1) ∧ (t.2.1 100 (s.1 66 50).toNat = 3 ∧ t.2.1 101 (s.1 66 50).toNat = s.1 66 61 ∧ t.2.1 102 (s.1 66 50).toNat = -1 ∧ t.2.1 103 (s.1 66 50).toNat = -1) ∧ ((0 ≤ t.2.1 104 (s.1 66 50).toNat ∧ t.2.1 104 (s.1 66 50).toNat + (n : Int) ≤ t.1 66 56) ∧ rf_aa t (s.1 66 61) = (n : Int)) ∧ ∀ i, i < n → rf_rv1 t (s.1 66 50).toNat i = zf i
theorem vr_H1_ar {nb ib : Int} {D : Int → Prop} {zf : Nat → Int} {n : Nat} {s t : sx_S} (hE : rf_EX nb ib s t) (h : vr_H1 D zf n s t) (v : Int) : vr_ar t v = if v = s.1 66 61 then (n : Int) else vr_ar s v := by
  obtain ⟨⟨a1, a2, a3, a4⟩, _, _, _, _, ⟨_, f2⟩, _⟩ := h
  by_cases c : v = s.1 66 61
  · rw [if_pos c, vr_ar_at (by omega), c, f2]
  · rw [if_neg c]
    by_cases c2 : 0 ≤ v ∧ v < s.1 66 61
    · rw [vr_ar_at c2, vr_ar_at (by omega), hE.aa c2.1 c2.2]
    · unfold vr_ar
      rw [if_neg c2, if_neg (by omega)]
theorem vr_H1_bo {nb ib : Int} {D : Int → Prop} {zf : Nat → Int} {n : Nat} {s t : sx_S} {g g' : rf_Gh} (hE : rf_EX nb ib s t) (hG : rf_EG s g g') (hM : rf_MI nb ib s g) (hM' : rf_MI nb ib t g') (h : vr_H1 D zf n s t) (v : Int) : (D v → vr_bo t g' v = some (rf_n (s.1 66 50).toNat 3 (s.1 66 61) .leaf .leaf, vr_e t g' v) ∧ g'.2.1 v = .leaf) ∧ (¬ D v → vr_bo t g' v = vr_bo s g v) := by
  obtain ⟨⟨a1, a2, a3, a4⟩, b, c, d, e, _⟩ := h
  have eJ : (((s.1 66 50).toNat : Nat) : Int) = s.1 66 50 := Int.toNat_of_nonneg a3
  constructor
  · intro hD
    obtain ⟨d1, d2, d3, d4, d5⟩ := d v hD
    obtain ⟨h1, h2⟩ := vr_hd (J := (s.1 66 50).toNat) hM' (x := v) (by omega) d3 (by omega) d5 e
    refine ⟨?_, h2⟩
    rw [vr_bo_at (by omega) d3, h1, vr_1_in, vr_f_3 rfl]
  · intro hD
    by_cases c2 : 0 ≤ v ∧ v < s.1 66 61
    · have e1 := b v c2.1 c2.2 hD
      by_cases cs : s.2.1 111 v.toNat = 0
      · rw [vr_bo_no cs, vr_bo_no (by rw [e1]; exact cs)]
      · exact vr_bo_up hE hG hM c2 cs
    · rw [vr_bo_out c2]
      by_cases c3 : v = s.1 66 61
      · exact vr_bo_no (by rw [c3]; exact c)
      · exact vr_bo_out (by omega)
theorem vr_H1_p {D : Int → Prop} {zf : Nat → Int} {n : Nat} {s t : sx_S} {AR : Nat → List Int} (h : vr_H1 D zf n s t) : vr_p t (vr_nA s AR ((List.range n).map zf)) (s.1 66 50).toNat (s.1 66 61) := by
  obtain ⟨⟨a1, a2, a3, a4⟩, b, c, d, e, ⟨f1, f2⟩, z⟩ := h
  refine ⟨⟨by omega, by omega, f1.1, by rw [f2]; exact f1.2⟩, ?_⟩
  unfold vr_nA vr_rw
  rw [if_pos rfl, f2, Int.toNat_natCast]
  exact List.map_congr_left (fun i hi => (z i (List.mem_range.mp hi)).symm)
theorem vr_H1_G {nb ib : Int} {D : Int → Prop} {zf : Nat → Int} {n : Nat} {s t : sx_S} {g g' : rf_Gh} {AR : Nat → List Int} (hE : rf_EX nb ib s t) (hG : rf_EG s g g') (hM' : rf_MI nb ib t g') (h : vr_H1 D zf n s t) (k : vr_G s g AR) : vr_G t g' (vr_nA s AR ((List.range n).map zf)) := fun x h0 hm hs => by
  have hp := vr_H1_p (AR := AR) h
  obtain ⟨⟨a1, a2, a3, a4⟩, b, c, d, e, _⟩ := h
  by_cases hD : D x
  · obtain ⟨d1, d2, d3, d4, d5⟩ := d x hD
    obtain ⟨h1, h2⟩ := vr_hd (J := (s.1 66 50).toNat) hM' (x := x) (by omega) d3 (by omega) d5 e
    rw [h1]
    exact ⟨by omega, Or.inr (Or.inl ⟨rfl, hp⟩)⟩
  · have hne : x ≠ s.1 66 61 := fun q => by
      rw [q] at hs
      exact hs c
    rw [b x h0 (by omega) hD] at hs
    rw [((hG x h0 (by omega)).1 hs).1]
    exact (vr_t_up hE vr_nA_lt).1 (k x h0 (by omega) hs)
/-- the variables of the unknown x are xf -/
def vr_H2 (x row : Int) (xf : Nat → Int) (t : sx_S) : Prop := t.2.1 112 x.toNat = row ∧ (∀ q : Nat, (q : Int) < rf_aa t x → t.2.1 105 (row + (q : Int)).toNat = xf q) ∧ ∀ p q : Nat, (p : Int) < rf_aa t x → (q : Int) < rf_aa t x → xf p = xf q → p = q
theorem vr_H2_fm {x row : Int} {xf : Nat → Int} {t : sx_S} (h : vr_H2 x row xf t) {q : Nat} (hq : (q : Int) < rf_aa t x) : rf_fm t x q = xf q := by
  unfold rf_fm
  rw [h.1]
  exact h.2.1 q hq
theorem vr_H2_e {x row : Int} {xf : Nat → Int} {t : sx_S} {g' : rf_Gh} (h : vr_H2 x row xf t) (hy : g'.2.1 x = .leaf) : (∀ q : Nat, (q : Int) < rf_aa t x → vr_e t g' x (xf q) = (q : Int)) ∧ ∀ z, 0 ≤ vr_e t g' x z → ∃ q : Nat, (q : Int) < rf_aa t x ∧ vr_e t g' x z = (q : Int) ∧ z = xf q := by
  constructor
  · intro q hq
    refine vr_e_at (fun a b ha hb e => ?_) hq ?_
    · rw [vr_H2_fm h ha, vr_H2_fm h hb] at e
      exact h.2.2 a b ha hb e
    · rw [hy, vr_H2_fm h hq]
      rfl
  · intro z hz
    obtain ⟨q, q1, q2, q3⟩ := vr_e_nn hz
    rw [hy, vr_H2_fm h q1] at q3
    exact ⟨q, q1, q2, q3⟩
theorem vr_nw_mk {nb ib : Int} {D : Int → Prop} {n : Nat} {s t : sx_S} {g g' : rf_Gh} {AR : Nat → List Int} {m row : Int} {xf : Nat → Int} {kf : Nat → Nat} {S1 : vx_S} (hI : cx_I t) (hE : rf_EX nb ib s t) (h : vr_H1 D (fun i => xf (kf i)) n s t) (hm : 0 ≤ m ∧ m < s.1 66 61) (ho : s.2.1 111 m.toNat = 0) (h2 : vr_H2 m row xf t) (hy : g'.2.1 m = .leaf) (hkf : ∀ i, i < n → ((kf i : Nat) : Int) < rf_aa s m) (hki : ∀ i j, i < n → j < n → kf i = kf j → i = j) (e1 : S1.1 = t.1 66 61) (e2 : S1.2.1 = t.1 66 50) (e3 : S1.2.2.1 = vr_ar t) (e4 : ∀ v, S1.2.2.2.1 v = if v = m then some (rf_n (s.1 66 50).toNat 3 (s.1 66 61) .leaf .leaf, vr_e t g' m) else vr_bo s g v) (e5 : S1.2.2.2.2 = vr_nA s AR ((List.range n).map (fun i => xf (kf i)))) : vx_nw (vr_S s g AR) S1 m (s.1 66 50).toNat .leaf (vr_e t g' m) ((List.range n).map (fun i => xf (kf i))) ((List.range n).map (fun i => ((kf i : Nat) : Int))) := by
  have har := vr_H1_ar hE h
  obtain ⟨⟨a1, a2, a3, a4⟩, b, c, d, e, _⟩ := h
  have eam := hE.aa hm.1 hm.2
  refine ⟨⟨?_, ?_, ?_, ?_, fun _ hi => absurd hi List.not_mem_nil⟩, ⟨vr_bo_no ho, vr_bo_out (fun c => by have := c.2; exact Int.lt_irrefl _ this), hm⟩, fun v => ?_, e4, fun i hi => ?_, ?_, ?_, vr_gn (fun i j hi hj q => hki i j hi hj (by omega)), fun k hk => ?_, fun z => ?_⟩
  · rw [e1]
    exact a1
  · rw [e2]
    show s.1 66 50 ≤ _
    omega
  · show s.1 66 50 ≤ _
    omega
  · rw [e2]
    omega
  · rw [e3, har v, vr_gl]
    rfl
  · rw [e5]
    exact vr_nA_lt i hi
  · rw [e5]
    exact if_pos rfl
  · rw [List.map_map]
    refine List.map_congr_left (fun i hi => ?_)
    show vr_e t g' m (xf (kf i)) = _
    exact (vr_H2_e h2 hy).1 (kf i) (by rw [eam]; exact hkf i (List.mem_range.mp hi))
  · obtain ⟨i, i1, i2⟩ := vr_gm.mp hk
    show 0 ≤ k ∧ k < vr_ar s m
    rw [vr_ar_at hm]
    have := hkf i i1
    omega
  · show vr_e t g' m z < vr_ar s m
    rw [vr_ar_at hm, ← eam]
    exact vr_e_lt hI g' m z
/-- the ARGs of a call, as they are called -/
theorem vr_xs {s : sx_S} {AR : Nat → List Int} {j : Nat} {m i : Int} {y : rf_Y} (h : vr_p s AR j m) (hi : i.toNat = j) : (AR j).map (rf_look y) = (List.range (rf_aa s m).toNat).map (rf_vo s y i) := by
  rw [h.2]
  unfold vr_rw
  rw [List.map_map]
  refine List.map_congr_left (fun q _ => ?_)
  show rf_look y (rf_rv1 s j q) = rf_vo s y i q
  unfold rf_vo rf_rv1
  rw [hi]
/-- what keep leaves -/
theorem vr_keep {nb ib : Int} {s u t : sx_S} {g g' : rf_Gh} {AR : Nat → List Int} {m row : Int} {Tf : Nat → Int} {kf : Nat → Nat} {n : Nat} (hI : cx_I s) (hE : rf_EX nb ib s t) (hM : rf_MI nb ib s g) (hM' : rf_MI nb ib t g') (hG : rf_EG s g g') (hV : vr_G s g AR) (hm : 0 ≤ m ∧ m < s.1 66 61) (ho : s.2.1 111 m.toNat = 0) (hrow : 0 ≤ row ∧ row + rf_aa s m ≤ s.1 66 56) (hf3 : ∀ p q : Nat, (p : Int) < rf_aa s m → (q : Int) < rf_aa s m → s.2.1 105 (row + (p : Int)).toNat = s.2.1 105 (row + (q : Int)).toNat → p = q) (hW : rf_KW s u (fun q => s.2.1 105 (row + (q : Int)).toNat) Tf kf n) (hkf : ∀ i, i < n → ((kf i : Nat) : Int) < rf_aa s m) (hki : ∀ i j, i < n → j < n → kf i = kf j → i = j) (hA : rf_AS u t m row (s.1 66 50) (-1)) : vx_nw (vr_S s g AR) (vr_S t g' (vr_nA s AR ((List.range n).map (fun i => s.2.1 105 (row + ((kf i : Nat) : Int)).toNat)))) m (s.1 66 50).toNat .leaf (vr_e t g' m) ((List.range n).map (fun i => s.2.1 105 (row + ((kf i : Nat) : Int)).toNat)) ((List.range n).map (fun i => ((kf i : Nat) : Int))) ∧ vr_G t g' (vr_nA s AR ((List.range n).map (fun i => s.2.1 105 (row + ((kf i : Nat) : Int)).toNat))) := by
  obtain ⟨⟨b1, b2, b3⟩, ⟨c1, c2, c3, c4⟩, ⟨d1, d2, d3, d4, d5⟩, ⟨e1, e2, e3, e4, e5⟩, ⟨f1, f2, f3⟩, gg⟩ := hW
  obtain ⟨a1, a2, a3, a4, a5, a6, a7, a8, a9⟩ := hA
  have r61 := hI.fld 66 61 (by decide) rfl
  have r50 := hI.fld 66 50 (by decide) rfl
  have r56 := hI.fld 66 56 (by decide) rfl
  have e61 := a3 61 rfl
  have e50 := a3 50 rfl
  have e56 := a3 56 rfl
  have s105 : t.2.1 105 = u.2.1 105 := (a2.same 105 rfl).2
  have eam := hE.aa hm.1 hm.2
  have hH1 : vr_H1 (fun x => x = m) (fun i => s.2.1 105 (row + ((kf i : Nat) : Int)).toNat) n s t := by
    refine ⟨⟨by omega, by omega, r50.1, r61.1⟩, fun x h0 h1 hx => ?_, ?_, fun x hx => ?_, ?_, ⟨⟨?_, ?_⟩, ?_⟩, fun i hi => ?_⟩
    · rw [a5 111 _ (by omega) (by omega) (by omega)]
      exact d5 111 _ (by omega) (by omega) (by omega)
    · rw [a5 111 _ (by omega) (by omega) (by omega)]
      exact f3
    · have hx' : x = m := hx
      subst hx'
      exact ⟨hm, ho, by rw [a6]; decide, a8, a9⟩
    · rw [(a2.same 100 rfl).2, (a2.same 101 rfl).2, (a2.same 102 rfl).2, (a2.same 103 rfl).2]
      exact ⟨e1, e2, e3, e4⟩
    · rw [(a2.same 104 rfl).2, e5]
      exact r56.1
    · rw [(a2.same 104 rfl).2, e5]
      omega
    · unfold rf_aa
      rw [(a2.same 108 rfl).2]
      exact f1
    · unfold rf_rv1
      rw [(a2.same 104 rfl).2, e5, s105]
      exact (gg i hi).1
  have hH2 : vr_H2 m row (fun q => s.2.1 105 (row + (q : Int)).toNat) t := by
    refine ⟨a7, fun q hq => ?_, fun p q hp hq => ?_⟩
    · rw [s105]
      exact d2 105 _ (by omega) (by omega) (by omega)
    · rw [eam] at hp hq
      exact hf3 p q hp hq
  have hbo := vr_H1_bo hE hG hM hM' hH1
  refine ⟨vr_nw_mk (xf := fun q => s.2.1 105 (row + (q : Int)).toNat) (row := row) (g' := g') a1 hE hH1 hm ho hH2 ((hbo m).1 rfl).2 hkf hki rfl rfl rfl (fun v => ?_) rfl, vr_H1_G hE hG hM' hH1 hV⟩
  show vr_bo t g' v = _
  by_cases c : v = m
  · rw [if_pos c, c]
    exact ((hbo m).1 rfl).1
  · rw [if_neg c]
    exact (hbo v).2 c
end
