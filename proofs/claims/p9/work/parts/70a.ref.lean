/-! ===== the reference: its memory as a state of solving ===== -/
/-- what counts of a tree: a \ has one part, an unknown none -/
def vr_c : rf_N → rf_N
  | .leaf => .leaf
  | .inner j q _ f x => .inner j q () (if q.1 = 0 then vx_1 (vr_c f) else if q.1 = 3 then .leaf else vr_c f) (vr_c x)
/-- one node of it alone -/
def vr_1 (A : rf_N) : rf_N := vx_1 (vr_c A)
def vr_f (k : Int) (f : rf_N) : rf_N := if k = 0 then vr_1 f else if k = 3 then .leaf else vr_c f
theorem vr_f_0 {k : Int} {f : rf_N} (h : k = 0) : vr_f k f = vr_1 f := if_pos h
theorem vr_f_3 {k : Int} {f : rf_N} (h : k = 3) : vr_f k f = .leaf := by
  unfold vr_f
  rw [if_neg (by omega), if_pos h]
theorem vr_f_2 {k : Int} {f : rf_N} (h : k = 1 ∨ k = 2) : vr_f k f = vr_c f := by
  unfold vr_f
  rw [if_neg (by omega), if_neg (by omega)]
theorem vr_1_in (j : Nat) (q : Int × Int) (u : Unit) (f x : rf_N) : vr_1 (.inner j q u f x) = .inner j q () (vr_f q.1 f) .leaf := rfl
theorem vr_c_in (j : Nat) (q : Int × Int) (u : Unit) (f x : rf_N) : vr_c (.inner j q u f x) = .inner j q () (vr_f q.1 f) (vr_c x) := rfl
theorem vr_1_1 : ∀ A : rf_N, vx_1 (vr_1 A) = vr_1 A
  | .leaf => rfl
  | .inner _ _ _ _ _ => rfl
theorem vr_1_ne {A : rf_N} (h : A ≠ .leaf) : vr_1 A ≠ .leaf := by
  cases A with
  | leaf => exact absurd rfl h
  | inner j q u f x =>
    intro z
    rw [vr_1_in] at z
    cases z
/-- its nodes lie below n, are of the four kinds, and p holds of its unknowns -/
def vr_g (n : Int) (p : Nat → Int → Prop) : rf_N → Prop × Prop
  | .leaf => (False, True)
  | .inner j k _ f x => ((j : Int) < n ∧ ((k.1 = 0 ∧ (vr_g n p f).1) ∨ (k.1 = 3 ∧ p j k.2) ∨ ((k.1 = 1 ∨ k.1 = 2) ∧ (vr_g n p f).2)), ((j : Int) < n ∧ ((k.1 = 0 ∧ (vr_g n p f).1) ∨ (k.1 = 3 ∧ p j k.2) ∨ ((k.1 = 1 ∨ k.1 = 2) ∧ (vr_g n p f).2))) ∧ (vr_g n p x).2)
theorem vr_g_mono {n n' : Int} {p p' : Nat → Int → Prop} (hn : n ≤ n') (hp : ∀ (j : Nat) (r : Int), (j : Int) < n → p j r → p' j r) : ∀ {A : rf_N}, ((vr_g n p A).1 → (vr_g n' p' A).1) ∧ ((vr_g n p A).2 → (vr_g n' p' A).2)
  | .leaf => ⟨fun h => h, fun h => h⟩
  | .inner j k u f x => by
    have hf := vr_g_mono hn hp (A := f)
    have hx := vr_g_mono hn hp (A := x)
    have key : (vr_g n p (.inner j k u f x)).1 → (vr_g n' p' (.inner j k u f x)).1 := by
      rintro ⟨h1, ⟨k0, h⟩ | ⟨k3, h⟩ | ⟨k2, h⟩⟩
      · exact ⟨by omega, Or.inl ⟨k0, hf.1 h⟩⟩
      · exact ⟨by omega, Or.inr (Or.inl ⟨k3, hp j _ h1 h⟩)⟩
      · exact ⟨by omega, Or.inr (Or.inr ⟨k2, hf.2 h⟩)⟩
    exact ⟨key, fun h => ⟨key h.1, hx.2 h.2⟩⟩
/-- the row of a node before the unknown r; what is known of an unknown's node -/
def vr_rw (s : sx_S) (j : Nat) (r : Int) : List Int := (List.range (rf_aa s r).toNat).map (rf_rv1 s j)
def vr_p (s : sx_S) (AR : Nat → List Int) (j : Nat) (r : Int) : Prop := rf_bn s j r ∧ AR j = vr_rw s j r
def vr_t (s : sx_S) (AR : Nat → List Int) (A : rf_N) : Prop := (vr_g (s.1 66 50) (vr_p s AR) A).1
def vr_r (s : sx_S) (AR : Nat → List Int) (A : rf_N) : Prop := (vr_g (s.1 66 50) (vr_p s AR) A).2
/-- the variables of a solved unknown; which of them a variable of its body is -/
def vr_fl (s : sx_S) (u : Int) : List Int := (List.range (rf_aa s u).toNat).map (rf_fm s u)
def vr_e (s : sx_S) (g : rf_Gh) (u z : Int) : Int := if rf_look (g.2.1 u) z ∈ vr_fl s u then vx_ii (vr_fl s u) (rf_look (g.2.1 u) z) else -1
def vr_ar (s : sx_S) (u : Int) : Int := if 0 ≤ u ∧ u < s.1 66 61 then rf_aa s u else 0
def vr_bo (s : sx_S) (g : rf_Gh) (u : Int) : Option (rf_N × (Int → Int)) := if (0 ≤ u ∧ u < s.1 66 61) ∧ s.2.1 111 u.toNat ≠ 0 then some (vr_1 (g.1 u), vr_e s g u) else none
def vr_S (s : sx_S) (g : rf_Gh) (AR : Nat → List Int) : vx_S := (s.1 66 61, s.1 66 50, vr_ar s, vr_bo s g, AR)
/-- the bodies -/
def vr_G (s : sx_S) (g : rf_Gh) (AR : Nat → List Int) : Prop := ∀ x : Int, 0 ≤ x → x < s.1 66 61 → s.2.1 111 x.toNat ≠ 0 → vr_t s AR (g.1 x)
theorem vr_gr {f : Nat → Int} {n i : Nat} {z : Int} : ((List.range n).map f)[i]? = some z ↔ i < n ∧ z = f i := by
  rw [List.getElem?_map]
  by_cases h : i < n
  · rw [List.getElem?_range h]
    constructor
    · intro q
      exact ⟨h, (Option.some.inj q).symm⟩
    · rintro ⟨_, rfl⟩
      rfl
  · rw [List.getElem?_eq_none (by rw [List.length_range]; omega)]
    constructor
    · intro q
      cases q
    · rintro ⟨q, _⟩
      exact absurd q h
theorem vr_gm {f : Nat → Int} {n : Nat} {z : Int} : z ∈ (List.range n).map f ↔ ∃ i, i < n ∧ z = f i := by
  constructor
  · intro h
    obtain ⟨i, h1, h2⟩ := List.mem_map.mp h
    exact ⟨i, List.mem_range.mp h1, h2.symm⟩
  · rintro ⟨i, h1, rfl⟩
    exact List.mem_map_of_mem (List.mem_range.mpr h1)
theorem vr_gl {f : Nat → Int} {n : Nat} : ((List.range n).map f).length = n := by rw [List.length_map, List.length_range]
theorem vr_gn {f : Nat → Int} {n : Nat} (h : ∀ i j, i < n → j < n → f i = f j → i = j) : ((List.range n).map f).Nodup := by
  refine List.pairwise_map.mpr (List.Pairwise.imp_of_mem (fun {a b} ha hb hne e => ?_) (List.nodup_range (n := n)))
  exact hne (h a b (List.mem_range.mp ha) (List.mem_range.mp hb) e)
theorem vr_bo_some {s : sx_S} {g : rf_Gh} {u : Int} {B : rf_N} {e : Int → Int} (h : vr_bo s g u = some (B, e)) : (0 ≤ u ∧ u < s.1 66 61) ∧ s.2.1 111 u.toNat ≠ 0 ∧ vr_1 (g.1 u) = B ∧ vr_e s g u = e := by
  unfold vr_bo at h
  by_cases c : (0 ≤ u ∧ u < s.1 66 61) ∧ s.2.1 111 u.toNat ≠ 0
  · rw [if_pos c] at h
    obtain ⟨h1, h2⟩ := Prod.mk.inj (Option.some.inj h)
    exact ⟨c.1, c.2, h1, h2⟩
  · rw [if_neg c] at h
    cases h
theorem vr_bo_at {s : sx_S} {g : rf_Gh} {u : Int} (h : 0 ≤ u ∧ u < s.1 66 61) (hs : s.2.1 111 u.toNat ≠ 0) : vr_bo s g u = some (vr_1 (g.1 u), vr_e s g u) := if_pos ⟨h, hs⟩
theorem vr_bo_no {s : sx_S} {g : rf_Gh} {u : Int} (h : s.2.1 111 u.toNat = 0) : vr_bo s g u = none := if_neg (fun c => c.2 h)
theorem vr_bo_out {s : sx_S} {g : rf_Gh} {u : Int} (h : ¬ (0 ≤ u ∧ u < s.1 66 61)) : vr_bo s g u = none := if_neg (fun c => h c.1)
theorem vr_ar_at {s : sx_S} {u : Int} (h : 0 ≤ u ∧ u < s.1 66 61) : vr_ar s u = rf_aa s u := if_pos h
theorem vr_aa0 {s : sx_S} (hI : cx_I s) (u : Int) : 0 ≤ rf_aa s u ∧ rf_aa s u ≤ 4 := hI.arr 108 (by decide) rfl u.toNat
theorem vr_ar0 {s : sx_S} (hI : cx_I s) (u : Int) : 0 ≤ vr_ar s u := by
  unfold vr_ar
  by_cases c : 0 ≤ u ∧ u < s.1 66 61
  · rw [if_pos c]
    exact (vr_aa0 hI u).1
  · rw [if_neg c]
    exact Int.le_refl _
theorem vr_e_lt {s : sx_S} (hI : cx_I s) (g : rf_Gh) (u z : Int) : vr_e s g u z < rf_aa s u := by
  have h0 := vr_aa0 hI u
  unfold vr_e
  by_cases c : rf_look (g.2.1 u) z ∈ vr_fl s u
  · rw [if_pos c]
    have := vx_ii_lt c
    unfold vr_fl at this
    rw [vr_gl] at this
    unfold vr_fl
    omega
  · rw [if_neg c]
    omega
theorem vr_fl_n {s : sx_S} {u : Int} (h : ∀ p q : Nat, (p : Int) < rf_aa s u → (q : Int) < rf_aa s u → rf_fm s u p = rf_fm s u q → p = q) : (vr_fl s u).Nodup := vr_gn (fun i j hi hj => h i j (by omega) (by omega))
theorem vr_e_at {s : sx_S} {g : rf_Gh} {u z : Int} {q : Nat} (hn : ∀ p q : Nat, (p : Int) < rf_aa s u → (q : Int) < rf_aa s u → rf_fm s u p = rf_fm s u q → p = q) (hq : (q : Int) < rf_aa s u) (h : rf_look (g.2.1 u) z = rf_fm s u q) : vr_e s g u z = (q : Int) := by
  have hm : (vr_fl s u)[q]? = some (rf_look (g.2.1 u) z) := vr_gr.mpr ⟨by omega, h⟩
  unfold vr_e
  rw [if_pos (List.mem_of_getElem? hm)]
  exact vx_ii_at (vr_fl_n hn) hm
theorem vr_e_nn {s : sx_S} {g : rf_Gh} {u z : Int} (h : 0 ≤ vr_e s g u z) : ∃ q : Nat, (q : Int) < rf_aa s u ∧ vr_e s g u z = (q : Int) ∧ rf_look (g.2.1 u) z = rf_fm s u q := by
  unfold vr_e at h ⊢
  by_cases c : rf_look (g.2.1 u) z ∈ vr_fl s u
  · rw [if_pos c]
    have h1 := vx_ii_get c
    obtain ⟨h2, h3⟩ := vr_gr.mp h1
    have h0 := vx_ii_0 (vr_fl s u) (rf_look (g.2.1 u) z)
    exact ⟨_, by omega, (Int.toNat_of_nonneg h0).symm, h3⟩
  · rw [if_neg c] at h
    omega
theorem vr_in_cons {S : vx_S} {j : Nat} {k : Int × Int} {F X : rf_N} (h : vx_in S (.inner j k () F .leaf)) (hX : vx_in S X) : vx_in S (.inner j k () F X) := by
  obtain ⟨h1, h2, h3⟩ := h
  obtain ⟨x1, x2, x3⟩ := hX
  refine ⟨fun m hm => ?_, fun i hi => ?_, ⟨h3.1, x3⟩⟩
  · rcases hm with hm | hm | hm
    · exact h1 m (Or.inl hm)
    · exact h1 m (Or.inr (Or.inl hm))
    · exact x1 m hm
  · rcases List.mem_cons.mp hi with rfl | hi
    · exact h2 _ List.mem_cons_self
    · rcases List.mem_append.mp hi with hi | hi
      · exact h2 i (List.mem_cons_of_mem _ (List.mem_append_left _ hi))
      · exact x2 i hi
theorem vr_in {s : sx_S} {g : rf_Gh} {AR : Nat → List Int} (hI : cx_I s) : ∀ {A : rf_N}, (vr_t s AR A → vx_in (vr_S s g AR) (vr_1 A)) ∧ (vr_r s AR A → vx_in (vr_S s g AR) (vr_c A))
  | .leaf => ⟨fun h => h.elim, fun _ => ⟨fun _ h => h.elim, fun _ h => absurd h List.not_mem_nil, trivial⟩⟩
  | .inner j k u f x => by
    have hf := vr_in (s := s) (g := g) (AR := AR) hI (A := f)
    have hx := vr_in (s := s) (g := g) (AR := AR) hI (A := x)
    have key : vr_t s AR (.inner j k u f x) → vx_in (vr_S s g AR) (vr_1 (.inner j k u f x)) := by
      rintro ⟨hj, h⟩
      rw [vr_1_in]
      rcases h with ⟨k0, h⟩ | ⟨k3, hb, hq⟩ | ⟨k2, h⟩
      · rw [vr_f_0 k0]
        obtain ⟨i1, i2, i3⟩ := hf.1 h
        refine ⟨fun m hm => ?_, fun i hi => ?_, ⟨Or.inl ⟨Or.inl k0, i3⟩, trivial⟩⟩
        · rcases hm with ⟨c, _⟩ | ⟨_, hm⟩ | hm
          · omega
          · exact i1 m hm
          · exact hm.elim
        · rcases List.mem_cons.mp hi with rfl | hi
          · exact hj
          · rcases List.mem_append.mp hi with hi | hi
            · exact i2 i hi
            · exact absurd hi List.not_mem_nil
      · rw [vr_f_3 k3]
        obtain ⟨_, hr, _⟩ := hb
        refine ⟨fun m hm => ?_, fun i hi => ?_, ⟨Or.inr ⟨k3, ?_⟩, trivial⟩⟩
        · rcases hm with ⟨_, c⟩ | ⟨_, hm⟩ | hm
          · rw [← c]
            exact hr
          · exact hm.elim
          · exact hm.elim
        · rcases List.mem_cons.mp hi with rfl | hi
          · exact hj
          · exact absurd hi List.not_mem_nil
        · show ((AR j).length : Int) = vr_ar s k.2
          rw [hq, vr_ar_at hr]
          unfold vr_rw
          rw [vr_gl]
          have := vr_aa0 hI k.2
          omega
      · rw [vr_f_2 k2]
        obtain ⟨i1, i2, i3⟩ := hf.2 h
        refine ⟨fun m hm => ?_, fun i hi => ?_, ⟨Or.inl ⟨Or.inr k2, i3⟩, trivial⟩⟩
        · rcases hm with ⟨c, _⟩ | ⟨_, hm⟩ | hm
          · omega
          · exact i1 m hm
          · exact hm.elim
        · rcases List.mem_cons.mp hi with rfl | hi
          · exact hj
          · rcases List.mem_append.mp hi with hi | hi
            · exact i2 i hi
            · exact absurd hi List.not_mem_nil
    refine ⟨key, fun h => ?_⟩
    rw [vr_c_in]
    exact vr_in_cons (key h.1) (hx.2 h.2)
theorem vr_mt {s : sx_S} {AR : Nat → List Int} {m : Int} : ∀ {A : rf_N}, (vr_t s AR A → vx_mt m (vr_1 A) → (rf_oc A).1 m) ∧ (vr_r s AR A → vx_mt m (vr_c A) → (rf_oc A).2 m)
  | .leaf => ⟨fun h => h.elim, fun _ h => h.elim⟩
  | .inner j k u f x => by
    have hf := vr_mt (s := s) (AR := AR) (m := m) (A := f)
    have hx := vr_mt (s := s) (AR := AR) (m := m) (A := x)
    have key : vr_t s AR (.inner j k u f x) → ((k.1 = 3 ∧ k.2 = m) ∨ (k.1 ≠ 3 ∧ vx_mt m (vr_f k.1 f))) → (rf_oc (.inner j k u f x)).1 m := by
      rintro ⟨hj, h⟩ hm
      rcases hm with ⟨c, hm⟩ | ⟨c, hm⟩
      · exact Or.inl ⟨c, hm.symm⟩
      · rcases h with ⟨k0, h⟩ | ⟨k3, _⟩ | ⟨k2, h⟩
        · rw [vr_f_0 k0] at hm
          exact Or.inr (Or.inl ⟨k0, hf.1 h hm⟩)
        · exact absurd k3 c
        · rw [vr_f_2 k2] at hm
          exact Or.inr (Or.inr ⟨k2, hf.2 h hm⟩)
    constructor
    · intro h hm
      rw [vr_1_in] at hm
      rcases hm with hm | hm | hm
      · exact key h (Or.inl hm)
      · exact key h (Or.inr hm)
      · exact hm.elim
    · intro h hm
      rw [vr_c_in] at hm
      rcases hm with hm | hm | hm
      · exact Or.inl (key h.1 (Or.inl hm))
      · exact Or.inl (key h.1 (Or.inr hm))
      · exact Or.inr (hx.2 h.2 hm)
theorem vr_fv {s : sx_S} {AR : Nat → List Int} {V : Int → Int → Prop} {U : Int → Nat → Prop} (hU : ∀ m (i : Nat), (i : Int) < rf_aa s m → V m i → U m i) {z : Int} : ∀ {A : rf_N}, (vr_t s AR A → vx_fv V AR z (vr_1 A) → (rf_fo (rf_Wd s U) A).1 z) ∧ (vr_r s AR A → vx_fv V AR z (vr_c A) → (rf_fo (rf_Wd s U) A).2 z)
  | .leaf => ⟨fun h => h.elim, fun _ h => h.elim⟩
  | .inner j k u f x => by
    have hf := vr_fv (s := s) (AR := AR) hU (z := z) (A := f)
    have hx := vr_fv (s := s) (AR := AR) hU (z := z) (A := x)
    have key : vr_t s AR (.inner j k u f x) → ((k.1 = 0 ∧ z ≠ k.2 ∧ vx_fv V AR z (vr_f k.1 f)) ∨ (k.1 = 3 ∧ ∃ i : Nat, (AR j)[i]? = some z ∧ V k.2 i) ∨ (k.1 ≠ 0 ∧ k.1 ≠ 3 ∧ ((k.1 = 2 ∧ z = k.2) ∨ vx_fv V AR z (vr_f k.1 f)))) → (rf_fo (rf_Wd s U) (.inner j k u f x)).1 z := by
      rintro ⟨hj, h⟩ hm
      rcases hm with ⟨c, c2, hm⟩ | ⟨c, i, i1, i2⟩ | ⟨c, c3, hm⟩
      · rcases h with ⟨k0, h⟩ | ⟨k3, _⟩ | ⟨k2, h⟩
        · rw [vr_f_0 k0] at hm
          exact Or.inr (Or.inl ⟨k0, c2, hf.1 h hm⟩)
        · omega
        · omega
      · rcases h with ⟨k0, h⟩ | ⟨k3, _, hq⟩ | ⟨k2, h⟩
        · omega
        · rw [hq] at i1
          obtain ⟨q1, q2⟩ := vr_gr.mp i1
          exact Or.inl ⟨c, i, hU _ i (by omega) i2, q2⟩
        · omega
      · rcases h with ⟨k0, h⟩ | ⟨k3, _⟩ | ⟨k2, h⟩
        · exact absurd k0 c
        · exact absurd k3 c3
        · refine Or.inr (Or.inr ⟨k2, ?_⟩)
          rcases hm with hm | hm
          · exact Or.inl hm
          · rw [vr_f_2 k2] at hm
            exact Or.inr (hf.2 h hm)
    constructor
    · intro h hm
      rw [vr_1_in] at hm
      rcases hm with hm | hm
      · exact key h hm
      · exact hm.elim
    · intro h hm
      rw [vr_c_in] at hm
      rcases hm with hm | hm
      · exact Or.inl (key h.1 hm)
      · exact Or.inr (hx.2 h.2 hm)
theorem vr_t_ne {s : sx_S} {AR : Nat → List Int} {A : rf_N} (h : vr_t s AR A) : A ≠ .leaf := by
  rintro rfl
  exact h
theorem vr_W {s : sx_S} {g : rf_Gh} {AR : Nat → List Int} (hI : cx_I s) (hG : vr_G s g AR) : vx_W (vr_S s g AR) := fun u B e h => by
  obtain ⟨h1, h2, rfl, rfl⟩ := vr_bo_some h
  refine ⟨h1, (vr_in hI).1 (hG u h1.1 h1.2 h2), fun z => ?_⟩
  show vr_e s g u z < vr_ar s u
  rw [vr_ar_at h1]
  exact vr_e_lt hI g u z
theorem vr_B1 {s : sx_S} {g : rf_Gh} {AR : Nat → List Int} (hI : cx_I s) (hG : vr_G s g AR) : vx_B1 (vr_S s g AR) := by
  refine ⟨fun u B e h => ?_, fun u => vr_ar0 hI u⟩
  obtain ⟨h1, h2, rfl, rfl⟩ := vr_bo_some h
  exact ⟨vr_1_ne (vr_t_ne (hG u h1.1 h1.2 h2)), vr_1_1 _⟩
/-- what is used -/
def vr_U (g : rf_Gh) (m i : Int) : Prop := ∃ q : Nat, i = (q : Int) ∧ g.2.2 m q
theorem vr_Ux {nb ib : Int} {s : sx_S} {g : rf_Gh} {AR : Nat → List Int} (hM : rf_MI nb ib s g) (hG : vr_G s g AR) {u z : Int} (hu : 0 ≤ u ∧ u < s.1 66 61) (hs : s.2.1 111 u.toNat ≠ 0) (h : vx_fv (vr_U g) AR z (vr_1 (g.1 u))) : vr_U g u (vr_e s g u z) := by
  have hMX := hM.1 u hu.1 hu.2
  have hSV := hMX.2.2.2 hs
  have h1 := (vr_fv (s := s) (AR := AR) (V := vr_U g) (U := g.2.2) (fun m i _ ⟨q, q1, q2⟩ => by rw [show i = q by omega]; exact q2)).1 (hG u hu.1 hu.2 hs) h
  obtain ⟨q, q1, q2⟩ := hSV.2.2.2.1 z h1
  exact ⟨q, vr_e_at hSV.2.2.1.2.2.2 (hMX.2.1 q q1) q2, q1⟩
theorem vr_cl {nb ib : Int} {s : sx_S} {g : rf_Gh} {AR : Nat → List Int} (hM : rf_MI nb ib s g) (hG : vr_G s g AR) : vx_cl (vr_S s g AR) (vr_U g) := by
  refine ⟨fun v i hv i0 i1 => ?_, fun v B e z hb hz => ?_⟩
  · have i1' : i < vr_ar s v := i1
    by_cases c : 0 ≤ v ∧ v < s.1 66 61
    · rw [vr_ar_at c] at i1'
      refine ⟨i.toNat, by omega, (hM.1 v c.1 c.2).2.2.1 ?_ _ (by omega)⟩
      apply Classical.byContradiction
      intro hs
      have hv' : vr_bo s g v = none := hv
      rw [vr_bo_at c hs] at hv'
      cases hv'
    · unfold vr_ar at i1'
      rw [if_neg c] at i1'
      omega
  · obtain ⟨h1, h2, rfl, rfl⟩ := vr_bo_some hb
    exact vr_Ux hM hG h1 h2 hz
theorem vr_Sc {nb ib : Int} {s : sx_S} {g : rf_Gh} {AR : Nat → List Int} (hM : rf_MI nb ib s g) (hG : vr_G s g AR) : vx_Sc (vr_S s g AR) := fun u B e z hb hz => by
  obtain ⟨h1, h2, rfl, rfl⟩ := vr_bo_some hb
  obtain ⟨q, q1, _⟩ := vr_Ux hM hG h1 h2 (vx_fv_mono (V := vr_U g) (fun m i hu => hu _ (vr_cl hM hG)) hz)
  omega
noncomputable def vr_ct (p : Nat → Prop) : Nat → Nat
  | 0 => 0
  | n + 1 => vr_ct p n + @ite Nat (p n) (Classical.propDecidable _) 1 0
theorem vr_ct_s (p : Nat → Prop) (n : Nat) : vr_ct p (n + 1) = vr_ct p n + @ite Nat (p n) (Classical.propDecidable _) 1 0 := rfl
theorem vr_ct_le {p q : Nat → Prop} (h : ∀ x, p x → q x) : ∀ n, vr_ct p n ≤ vr_ct q n
  | 0 => Nat.le_refl _
  | n + 1 => by
    have ih := vr_ct_le h n
    rw [vr_ct_s, vr_ct_s]
    by_cases c : p n
    · rw [if_pos c, if_pos (h n c)]
      omega
    · rw [if_neg c]
      omega
theorem vr_ct_lt {p q : Nat → Prop} {a : Nat} (h : ∀ x, p x → q x) (hq : q a) (hp : ¬ p a) : ∀ n, a < n → vr_ct p n < vr_ct q n
  | 0, ha => absurd ha (Nat.not_lt_zero _)
  | n + 1, ha => by
    rw [vr_ct_s, vr_ct_s]
    by_cases e : a = n
    · have ih := vr_ct_le h n
      rw [← e, if_neg hp, if_pos hq]
      rw [e]
      omega
    · have ih := vr_ct_lt h hq hp n (by omega)
      by_cases c : p n
      · rw [if_pos c, if_pos (h n c)]
        omega
      · rw [if_neg c]
        omega
theorem vr_rk {nb ib : Int} {s : sx_S} {g : rf_Gh} {AR : Nat → List Int} (hI : cx_I s) (hM : rf_MI nb ib s g) (hG : vr_G s g AR) : vx_rk (vr_S s g AR) (fun u => vr_ct (fun x => rf_rc (rf_Ed s g) u (x : Int)) (s.1 66 61).toNat) := fun u B e m hb hm => by
  obtain ⟨h1, h2, rfl, rfl⟩ := vr_bo_some hb
  have hr := ((vr_in (g := g) hI).1 (hG u h1.1 h1.2 h2)).1 m hm
  have hr' : 0 ≤ m ∧ m < s.1 66 61 := hr
  have hE : rf_Ed s g u m := ⟨h1, h2, (vr_mt (s := s) (AR := AR)).1 (hG u h1.1 h1.2 h2) hm⟩
  have em : ((m.toNat : Nat) : Int) = m := Int.toNat_of_nonneg hr'.1
  refine vr_ct_lt (a := m.toNat) (fun x hx => rf_rc_trans (.single hE) hx) ?_ ?_ _ (by omega)
  · try dsimp only
    rw [em]
    exact .single hE
  · try dsimp only
    rw [em]
    exact hM.2 m
/-- what has come so far has a solution -/
theorem vr_fin {nb ib : Int} {s : sx_S} {g : rf_Gh} {AR : Nat → List Int} (hI : cx_I s) (hM : rf_MI nb ib s g) (hG : vr_G s g AR) : ∃ th, vx_So (vr_S s g AR) th := by
  obtain ⟨th, h, _⟩ := vx_fin (vr_W hI hG) (vr_B1 hI hG) (vr_rk hI hM hG) (vr_Sc hM hG)
  exact ⟨th, h⟩
