/-! ===== long forms against the bytes of the text: counts ===== -/
def vl_w (AR : Nat → List Int) (D : List Int) (W : rf_N) (ls : List Int) : Nat := vx_ls (fun m => 2 * vw_cn AR true m W ls + 6 * vw_cn AR false m W ls) D
section
variable {AR : Nat → List Int} {D : List Int} {TV : Int → qx_T → Prop}
theorem vw_cn_snoc {b : Bool} {m : Int} {g : rf_N} : ∀ {f : rf_N}, vw_cn AR b m (rf_snoc f g) [] = vw_cn AR b m f [] + vw_cn AR b m g []
  | .leaf => (Nat.zero_add _).symm
  | .inner j q u F X => by
    have ih := vw_cn_snoc (b := b) (m := m) (g := g) (f := X)
    show vw_cn AR b m (.inner j q () F (rf_snoc X g)) [] = _
    rw [vw_cn_in, vw_cn_in, ih]
    omega
theorem vl_w_snoc {f g : rf_N} : vl_w AR D (rf_snoc f g) [] = vl_w AR D f [] + vl_w AR D g [] := by
  unfold vl_w
  rw [← vx_ls_add]
  congr 1
  funext m
  rw [vw_cn_snoc, vw_cn_snoc]
  omega
theorem vl_w_leaf {ls : List Int} : vl_w AR D .leaf ls = 0 := by
  unfold vl_w
  have : ∀ l : List Int, vx_ls (fun m => 2 * vw_cn AR true m .leaf ls + 6 * vw_cn AR false m .leaf ls) l = 0 := fun l => by
    induction l with
    | nil => rfl
    | cons x l ih =>
      show 0 + vx_ls _ l = 0
      rw [ih]
  exact this D
theorem vl_w_lam {j : Nat} {v : Int} {F : rf_N} {ls : List Int} : vl_w AR D (rf_n j 0 v F .leaf) ls = vl_w AR D F (v :: ls) := by
  unfold vl_w
  congr 1
theorem vl_w_hd {j : Nat} {k h : Int} {F : rf_N} {ls : List Int} (k0 : k ≠ 0) (k3 : k ≠ 3) : vl_w AR D (rf_n j k h F .leaf) ls = vl_w AR D F [] := by
  unfold vl_w
  congr 1
  funext m
  rw [vw_cn_in, vw_cn_in, if_neg k3, if_neg k0, if_neg k3, if_neg k0]
  rfl
theorem vl_w_sb {W X : rf_N} (hW : vx_sg W) : vl_w AR D (vx_sb W X) [] = vl_w AR D W [] + vl_w AR D X [] := by
  obtain ⟨j, k, h, F, rfl⟩ := hW
  have e : vx_sb (rf_n j k h F .leaf) X = rf_snoc (rf_n j k h F .leaf) X := rfl
  rw [e, vl_w_snoc]
theorem vx_ls_one {g : Int → Nat} {h : Int} (hg : ∀ m, m ≠ h → g m = 0) : ∀ {D : List Int}, D.Nodup → vx_ls g D ≤ g h
  | [], _ => Nat.zero_le _
  | x :: D, hn => by
    obtain ⟨n1, n2⟩ := List.nodup_cons.mp hn
    show g x + vx_ls g D ≤ g h
    by_cases q : x = h
    · have : vx_ls g D = 0 := by
        have hz : ∀ l : List Int, h ∉ l → vx_ls g l = 0 := fun l => by
          induction l with
          | nil => exact fun _ => rfl
          | cons y l ih =>
            intro hy
            show g y + vx_ls g l = 0
            rw [ih (fun z => hy (List.mem_cons_of_mem _ z)), hg y (fun e => hy (by rw [e]; exact List.mem_cons_self))]
        rw [q] at n1
        exact hz D n1
      rw [this, q]
      exact Nat.le_refl _
    · have := vx_ls_one hg n2
      rw [hg x q]
      omega
theorem vl_w_call (hD : D.Nodup) {j : Nat} {h : Int} {F : rf_N} {ls : List Int} : vl_w AR D (rf_n j 3 h F .leaf) ls ≤ 6 ∧ (vw_br AR ls j = true → vl_w AR D (rf_n j 3 h F .leaf) ls ≤ 2) := by
  have e0 : ∀ b m, vw_cn AR b m (rf_n j 3 h F .leaf) ls = if h = m ∧ vw_br AR ls j = b then 1 else 0 := fun b m => by
    rw [vw_cn_in, if_pos rfl]
    rfl
  have key := vx_ls_one (g := fun m => 2 * vw_cn AR true m (rf_n j 3 h F .leaf) ls + 6 * vw_cn AR false m (rf_n j 3 h F .leaf) ls) (h := h) (fun m hm => by
    try dsimp only
    rw [e0, e0, if_neg (fun q => hm q.1.symm), if_neg (fun q => hm q.1.symm)]) hD
  try dsimp only at key
  rw [e0, e0] at key
  unfold vl_w
  cases q : vw_br AR ls j with
  | true =>
    rw [if_pos ⟨rfl, q⟩, if_neg (fun z => by rw [q] at z; cases z.2)] at key
    exact ⟨by omega, fun _ => by omega⟩
  | false =>
    rw [if_neg (fun z => by rw [q] at z; cases z.2), if_pos ⟨rfl, q⟩] at key
    exact ⟨by omega, fun z => by cases z⟩
theorem vw_cn_0 {b : Bool} {m : Int} : ∀ {A : rf_N} {ls : List Int}, ¬ vx_mt m A → vw_cn AR b m A ls = 0
  | .leaf, _, _ => rfl
  | .inner j q u F X, ls, h => by
    rw [vw_cn_in, vw_cn_0 (A := X) (fun z => h (Or.inr (Or.inr z)))]
    by_cases c3 : q.1 = 3
    · rw [if_pos c3, if_neg (fun z => h (Or.inl ⟨c3, z.1⟩))]
    · rw [if_neg c3]
      have hF : ∀ ls, vw_cn AR b m F ls = 0 := fun ls => vw_cn_0 (fun z => h (Or.inr (Or.inl ⟨c3, z⟩)))
      by_cases c0 : q.1 = 0
      · rw [if_pos c0, hF]
      · rw [if_neg c0, hF]
theorem vl_w_0 {A : rf_N} {ls : List Int} (h : ∀ m ∈ D, ¬ vx_mt m A) : vl_w AR D A ls = 0 := by
  unfold vl_w
  have : ∀ l : List Int, (∀ m ∈ l, ¬ vx_mt m A) → vx_ls (fun m => 2 * vw_cn AR true m A ls + 6 * vw_cn AR false m A ls) l = 0 := fun l => by
    induction l with
    | nil => exact fun _ => rfl
    | cons x l ih =>
      intro hl
      show 2 * vw_cn AR true x A ls + 6 * vw_cn AR false x A ls + vx_ls _ l = 0
      rw [ih (fun m hm => hl m (List.mem_cons_of_mem _ hm)), vw_cn_0 (hl x List.mem_cons_self), vw_cn_0 (hl x List.mem_cons_self)]
  exact this D h
theorem vw_np_snoc {g : rf_N} : ∀ {f : rf_N}, vw_np (rf_snoc f g) = vw_np f + vw_np g
  | .leaf => (Nat.zero_add _).symm
  | .inner j q u F X => by
    have ih := vw_np_snoc (g := g) (f := X)
    show vw_np (.inner j q () F (rf_snoc X g)) = _
    rw [vw_np_in, vw_np_in, ih]
    omega
theorem vw_np_lam {j : Nat} {v : Int} {F : rf_N} : vw_np (rf_n j 0 v F .leaf) = vw_np F := by
  rw [vw_np_in, if_neg vx_03, if_pos rfl]
  rfl
theorem vw_np_hd {j : Nat} {k h : Int} {F : rf_N} (k0 : k ≠ 0) (k3 : k ≠ 3) : vw_np (rf_n j k h F .leaf) = 1 + vw_np F := by
  rw [vw_np_in, if_neg k3, if_neg k0]
  rfl
theorem vx_lh_snoc {g : rf_N} : ∀ {f : rf_N}, vx_lh (rf_snoc f g) = max (vx_lh f) (vx_lh g) ∧ vx_hh (rf_snoc f g) = max (vx_hh f) (vx_hh g)
  | .leaf => ⟨(Nat.max_eq_right (Nat.zero_le _)).symm, (Nat.max_eq_right (Nat.zero_le _)).symm⟩
  | .inner j q u F X => by
    obtain ⟨i1, i2⟩ := vx_lh_snoc (g := g) (f := X)
    show vx_lh (.inner j q () F (rf_snoc X g)) = _ ∧ vx_hh (.inner j q () F (rf_snoc X g)) = _
    rw [vx_lh_in, vx_lh_in, vx_hh_in, vx_hh_in, i1, i2]
    exact ⟨by omega, by omega⟩
theorem vw_su_snoc {C g : rf_N} : ∀ {f : rf_N}, vw_su C (rf_snoc f g) → vw_su C f ∨ vw_su C g
  | .leaf, h => Or.inr h
  | .inner j q u F X, h => by
    rcases h with h | h | h
    · exact Or.inl (Or.inl h)
    · exact Or.inl (Or.inr (Or.inl h))
    · rcases vw_su_snoc h with h | h
      · exact Or.inl (Or.inr (Or.inr h))
      · exact Or.inr h
theorem vx_mt_snoc {m : Int} {g : rf_N} : ∀ {f : rf_N}, vx_mt m f → vx_mt m (rf_snoc f g)
  | .leaf, h => h.elim
  | .inner j q u F X, h => by
    rcases h with h | h | h
    · exact Or.inl h
    · exact Or.inr (Or.inl h)
    · exact Or.inr (Or.inr (vx_mt_snoc h))
/-- all counts of a head with its ARGs and what it lacked -/
theorem vl_c1_ct : ∀ {x : qx_T} {W : rf_N} {k h : Int} {f : rf_N} {ρ : List Int}, vl_c1 TV x W k h f ρ → k ≠ 0 → k ≠ 3 → (∀ ls, vl_w AR D W ls = vl_w AR D f []) ∧ vw_np W = vw_np f + qx_at x ∧ vx_lh W + 1 ≤ qx_at x + vx_lh f ∧ vx_hh W ≤ 1 + max (vx_hh f) (qx_at x - 1) ∧ ∀ (i : Nat) (kk hh : Int) (G : rf_N), kk ≠ 0 → vw_su (rf_n i kk hh G .leaf) W → (vw_np (rf_n i kk hh G .leaf) = vw_np W ∧ ∀ m, vx_mt m f → vx_mt m (rf_n i kk hh G .leaf)) ∨ vw_su (rf_n i kk hh G .leaf) f ∨ vw_np (rf_n i kk hh G .leaf) + 1 ≤ qx_at x := by
  have fin : ∀ {j : Nat} {W : rf_N} {k h : Int} {f : rf_N} {x : qx_T}, qx_at x = 1 → W = rf_n j k h f .leaf → k ≠ 0 → k ≠ 3 → (∀ ls, vl_w AR D W ls = vl_w AR D f []) ∧ vw_np W = vw_np f + qx_at x ∧ vx_lh W + 1 ≤ qx_at x + vx_lh f ∧ vx_hh W ≤ 1 + max (vx_hh f) (qx_at x - 1) ∧ ∀ (i : Nat) (kk hh : Int) (G : rf_N), kk ≠ 0 → vw_su (rf_n i kk hh G .leaf) W → (vw_np (rf_n i kk hh G .leaf) = vw_np W ∧ ∀ m, vx_mt m f → vx_mt m (rf_n i kk hh G .leaf)) ∨ vw_su (rf_n i kk hh G .leaf) f ∨ vw_np (rf_n i kk hh G .leaf) + 1 ≤ qx_at x := by
    intro j W k h f x ex e k0 k3
    subst e
    obtain ⟨l1, l2⟩ := vx_lh_rig (j := j) (h := h) (F := f) k0 k3
    refine ⟨fun ls => vl_w_hd k0 k3, by rw [vw_np_hd k0 k3]; omega, by omega, by omega, fun i kk hh G kk0 hs => ?_⟩
    rcases hs with hs | ⟨_, hs⟩ | hs
    · rw [hs]
      exact Or.inl ⟨rfl, fun m hm => Or.inr (Or.inl ⟨k3, hm⟩)⟩
    · exact Or.inr (Or.inl hs)
    · exact hs.elim
  intro x
  induction x with
  | leaf =>
    rintro W k h f ρ ⟨j, e⟩ k0 k3
    exact fin rfl e k0 k3
  | inner n b u x y ihx ihy =>
    intro W k h f ρ hc k0 k3
    rcases hc with ⟨rfl, j, e⟩ | ⟨⟨rfl, rfl⟩, j, v, g, W', e, _, h3, h4, h5⟩
    · exact fin rfl e k0 k3
    · obtain ⟨a1, a2, a3, a4, a5⟩ := ihx h4 (by decide) (by decide)
      obtain ⟨b1, b2, b3, b4, b5⟩ := ihy h5 k0 k3
      obtain ⟨s1, s2⟩ := vx_lh_snoc (g := g) (f := f)
      obtain ⟨l1, l2⟩ := vx_lh_lam (j := j) (x := v) (F := W')
      have ea : qx_at (.inner 0 false u x y) = qx_at x + qx_at y := rfl
      have px := qx_at_pos x
      have py := qx_at_pos y
      have z1 : vw_np .leaf = 0 := rfl
      have z2 : vx_lh .leaf = 0 := rfl
      have z3 : vx_hh .leaf = 0 := rfl
      subst e
      refine ⟨fun ls => ?_, ?_, ?_, ?_, fun i kk hh G kk0 hs => ?_⟩
      · rw [vl_w_lam, b1, vl_w_snoc, a1, vl_w_leaf]
        rfl
      · rw [vw_np_lam, b2, vw_np_snoc, a2, ea]
        omega
      · rw [l1, ea]
        omega
      · rw [l2, ea]
        omega
      · rw [vw_np_lam, ea]
        rcases hs with hs | ⟨_, hs⟩ | hs
        · injection hs with _ hs2
          exact absurd (Prod.mk.inj hs2).1 kk0
        · rcases b5 i kk hh G kk0 hs with ⟨c1, c2⟩ | c | c
          · exact Or.inl ⟨c1, fun m hm => c2 m (vx_mt_snoc hm)⟩
          · rcases vw_su_snoc c with c | c
            · exact Or.inr (Or.inl c)
            · rcases a5 i kk hh G kk0 c with ⟨c1, _⟩ | c | c
              · exact Or.inr (Or.inr (by omega))
              · exact c.elim
              · exact Or.inr (Or.inr (by omega))
          · exact Or.inr (Or.inr (by omega))
        · exact hs.elim
/-- and of a call -/
theorem vl_c3_ct (hD : D.Nodup) : ∀ {x : qx_T} {W : rf_N} {h : Int} {vs : List Int} {ρ : List Int}, vl_c3 TV AR x W h vs ρ → (∀ ls, vl_w AR D W ls ≤ 6 ∧ (vs = (ls.take vs.length).reverse → vl_w AR D W ls ≤ 2)) ∧ vw_np W = 1 ∧ vx_lh W + 1 ≤ qx_at x ∧ vx_hh W = 0 ∧ ∀ (i : Nat) (kk hh : Int) (G : rf_N), kk ≠ 0 → kk ≠ 3 → ¬ vw_su (rf_n i kk hh G .leaf) W := by
  have fin : ∀ {j : Nat} {W : rf_N} {h : Int} {F : rf_N} {x : qx_T} {vs : List Int}, qx_at x = 1 → W = rf_n j 3 h F .leaf → AR j = vs → (∀ ls, vl_w AR D W ls ≤ 6 ∧ (vs = (ls.take vs.length).reverse → vl_w AR D W ls ≤ 2)) ∧ vw_np W = 1 ∧ vx_lh W + 1 ≤ qx_at x ∧ vx_hh W = 0 ∧ ∀ (i : Nat) (kk hh : Int) (G : rf_N), kk ≠ 0 → kk ≠ 3 → ¬ vw_su (rf_n i kk hh G .leaf) W := by
    intro j W h F x vs ex e ea
    subst e
    obtain ⟨l1, l2⟩ := vx_lh_call (j := j) (m := h) (F := F)
    refine ⟨fun ls => ⟨(vl_w_call hD).1, fun hv => (vl_w_call hD).2 (decide_eq_true (by rw [ea]; exact hv))⟩, ?_, by omega, l2, fun i kk hh G _ kk3 hs => ?_⟩
    · rw [vw_np_in, if_pos rfl]
      rfl
    · rcases hs with hs | ⟨c, _⟩ | hs
      · injection hs with _ hs2
        exact kk3 (Prod.mk.inj hs2).1
      · exact c rfl
      · exact hs
  intro x
  induction x with
  | leaf =>
    rintro W h vs ρ ⟨j, F, e, ea⟩
    exact fin rfl e ea
  | inner n b u x y ihx ihy =>
    intro W h vs ρ hc
    rcases hc with ⟨rfl, j, F, e, ea⟩ | ⟨⟨rfl, rfl⟩, j, v, W', e, _, h5⟩
    · exact fin rfl e ea
    · obtain ⟨b1, b2, b3, b4, b5⟩ := ihy h5
      obtain ⟨l1, l2⟩ := vx_lh_lam (j := j) (x := v) (F := W')
      have ea : qx_at (.inner 0 false u x y) = qx_at x + qx_at y := rfl
      have px := qx_at_pos x
      subst e
      refine ⟨fun ls => ?_, by rw [vw_np_lam]; exact b2, by rw [l1, ea]; omega, by rw [l2]; exact b4, fun i kk hh G kk0 kk3 hs => ?_⟩
      · rw [vl_w_lam]
        refine ⟨(b1 _).1, fun hv => (b1 _).2 ?_⟩
        rw [List.length_append, List.length_singleton, List.take_succ_cons, List.reverse_cons, ← hv]
      · rcases hs with hs | ⟨_, hs⟩ | hs
        · injection hs with _ hs2
          exact kk0 (Prod.mk.inj hs2).1
        · exact b5 i kk hh G kk0 kk3 hs
        · exact hs
end
