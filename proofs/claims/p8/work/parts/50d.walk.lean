/-! ===== the walk through what an unknown is given, pure ===== -/
theorem vx_03 : ¬ ((0 : Int) = 3) := by decide
theorem vx_30 : ¬ ((3 : Int) = 0) := by decide
/-- the terms of a row, each alone -/
def vx_el : rf_N → List rf_N
  | .leaf => []
  | .inner j q _ F X => .inner j q () F .leaf :: vx_el X
theorem vx_fv_el {U : Int → Int → Prop} {AR : Nat → List Int} {z : Int} : ∀ {A : rf_N}, vx_fv U AR z A ↔ ∃ B ∈ vx_el A, vx_fv U AR z B
  | .leaf => ⟨fun h => h.elim, fun ⟨_, h, _⟩ => absurd h List.not_mem_nil⟩
  | .inner j q u F X => by
    have hX := vx_fv_el (U := U) (AR := AR) (z := z) (A := X)
    constructor
    · rintro (h | h)
      · exact ⟨_, List.mem_cons_self, Or.inl h⟩
      · obtain ⟨B, h1, h2⟩ := hX.mp h
        exact ⟨B, List.mem_cons_of_mem _ h1, h2⟩
    · rintro ⟨B, h1, h2⟩
      rcases List.mem_cons.mp h1 with rfl | h1
      · rcases h2 with h2 | h2
        · exact Or.inl h2
        · exact h2.elim
      · exact Or.inr (hX.mpr ⟨B, h1, h2⟩)
theorem vx_mt_el {m : Int} : ∀ {A : rf_N}, vx_mt m A ↔ ∃ B ∈ vx_el A, vx_mt m B
  | .leaf => ⟨fun h => h.elim, fun ⟨_, h, _⟩ => absurd h List.not_mem_nil⟩
  | .inner j q u F X => by
    have hX := vx_mt_el (m := m) (A := X)
    constructor
    · rintro (h | h | h)
      · exact ⟨_, List.mem_cons_self, Or.inl h⟩
      · exact ⟨_, List.mem_cons_self, Or.inr (Or.inl h)⟩
      · obtain ⟨B, h1, h2⟩ := hX.mp h
        exact ⟨B, List.mem_cons_of_mem _ h1, h2⟩
    · rintro ⟨B, h1, h2⟩
      rcases List.mem_cons.mp h1 with rfl | h1
      · rcases h2 with h2 | h2 | h2
        · exact Or.inl h2
        · exact Or.inr (Or.inl h2)
        · exact h2.elim
      · exact Or.inr (Or.inr (hX.mpr ⟨B, h1, h2⟩))
/-- all that stands free in it is allowed -/
def vx_OK (U : Int → Int → Prop) (AR : Nat → List Int) (al : Int → Prop) (c : rf_N × (Int → Int)) : Prop := ∀ z, vx_fv U AR z c.1 → al (c.2 z)
theorem vx_OK_lam {U : Int → Int → Prop} {AR : Nat → List Int} {al : Int → Prop} {j : Nat} {x L : Int} {F : rf_N} {e : Int → Int} (hL : al L) : vx_OK U AR al (rf_n j 0 x F .leaf, e) ↔ vx_OK U AR al (F, vx_up e x L) := by
  constructor
  · intro h z hz
    show al (vx_up e x L z)
    unfold vx_up
    by_cases c : z = x
    · rw [if_pos c]
      exact hL
    · rw [if_neg c]
      exact h z (Or.inl (Or.inl ⟨rfl, c, hz⟩))
  · intro h z hz
    rcases hz with (⟨_, c, hz⟩ | ⟨c, _⟩ | ⟨c, _⟩) | hz
    · have := h z hz
      have h2 : al (vx_up e x L z) := this
      unfold vx_up at h2
      rw [if_neg c] at h2
      exact h2
    · exact absurd c vx_03
    · exact absurd rfl c
    · exact hz.elim
theorem vx_OK_rig {U : Int → Int → Prop} {AR : Nat → List Int} {al : Int → Prop} {j : Nat} {k h : Int} {F : rf_N} {e : Int → Int} (h0 : k ≠ 0) (h3 : k ≠ 3) : vx_OK U AR al (rf_n j k h F .leaf, e) ↔ (k = 2 → al (e h)) ∧ ∀ A ∈ vx_el F, vx_OK U AR al (A, e) := by
  constructor
  · intro o
    exact ⟨fun c => o h (Or.inl (Or.inr (Or.inr ⟨h0, h3, Or.inl ⟨c, rfl⟩⟩))), fun A hA z hz => o z (Or.inl (Or.inr (Or.inr ⟨h0, h3, Or.inr (vx_fv_el.mpr ⟨A, hA, hz⟩)⟩)))⟩
  · rintro ⟨o1, o2⟩ z hz
    rcases hz with (⟨c, _⟩ | ⟨c, _⟩ | ⟨_, _, ⟨c, hz⟩ | hz⟩) | hz
    · exact absurd c h0
    · exact absurd c h3
    · have hz' : z = h := hz
      rw [hz']
      exact o1 c
    · obtain ⟨A, hA, hz⟩ := vx_fv_el.mp hz
      exact o2 A hA z hz
    · exact hz.elim
theorem vx_OK_call {U : Int → Int → Prop} {AR : Nat → List Int} {al : Int → Prop} {j : Nat} {m : Int} {F : rf_N} {e : Int → Int} : vx_OK U AR al (rf_n j 3 m F .leaf, e) ↔ ∀ (i : Nat) z, (AR j)[i]? = some z → U m i → al (e z) := by
  constructor
  · intro o i z h1 h2
    exact o z (Or.inl (Or.inr (Or.inl ⟨rfl, i, h1, h2⟩)))
  · intro o z hz
    rcases hz with (⟨c, _⟩ | ⟨_, i, h1, h2⟩ | ⟨_, c, _⟩) | hz
    · exact absurd c vx_30
    · exact o i z h1 h2
    · exact absurd rfl c
    · exact hz.elim
/-- what is used is just what the bodies have -/
def vx_ex (S : vx_S) (U : Int → Int → Prop) : Prop := ∀ m B e j, S.2.2.2.1 m = some (B, e) → U m j → ∃ z, vx_fv U S.2.2.2.2 z B ∧ e z = j
theorem vx_ex_U (S : vx_S) : vx_ex S (vx_U S) := fun m B e j hb hu => by
  rcases vx_U_inv hu with ⟨h, _⟩ | ⟨B', e', z, h1, h2, h3⟩
  · rw [hb] at h
    exact absurd h (by simp)
  · rw [hb] at h1
    obtain ⟨rfl, rfl⟩ := Prod.mk.inj (Option.some.inj h1)
    exact ⟨z, h2, h3⟩
/-- good ones: open ones but u, and those with good ones alone in their bodies -/
def vx_eg (S : vx_S) (u : Int) (G : Int → Prop) : Prop := (∀ m, S.2.2.2.1 m = none → m ≠ u → G m) ∧ ∀ m B e, S.2.2.2.1 m = some (B, e) → (∀ x, vx_mt x B → G x) → G m
def vx_O (U : Int → Int → Prop) (G : Int → Prop) (AR : Nat → List Int) (al : Int → Prop) (c : rf_N × (Int → Int)) : Prop := vx_OK U AR al c ∧ ∀ m, vx_mt m c.1 → G m
/-- only unknowns below r stand in it -/
def vx_bl (rk : Int → Nat) (r : Nat) (A : rf_N) : Prop := ∀ m, vx_mt m A → rk m < r
/-- what the walk has found: pend what is still to be walked through, sn which unknowns it has been in, se with which ARGs allowed; u must not be met -/
def vx_H (S : vx_S) (u : Int) (al : Int → Prop) (sn : Int → Prop) (se : Int → Int → Prop) (pend : List (rf_N × (Int → Int))) (root : rf_N × (Int → Int)) : Prop := ∀ U G rk, vx_rk S rk → vx_ex S U → vx_eg S u G → (∀ m, sn m → (∀ c ∈ pend, vx_bl rk (rk m) c.1 → vx_O U G S.2.2.2.2 al c) → G m ∧ ∀ j, U m j → se m j) ∧ ((∀ c ∈ pend, vx_O U G S.2.2.2.2 al c) → vx_O U G S.2.2.2.2 al root)
theorem vx_H_0 {S : vx_S} {u : Int} {al : Int → Prop} {se : Int → Int → Prop} {root : rf_N × (Int → Int)} : vx_H S u al (fun _ => False) se [root] root := fun _ _ _ _ _ _ => ⟨fun _ h => h.elim, fun h => h root List.mem_cons_self⟩
/-- one thing to be walked through gives way to others, by which it is allowed -/
theorem vx_H_rep {S : vx_S} {u : Int} {al : Int → Prop} {sn : Int → Prop} {se : Int → Int → Prop} {c : rf_N × (Int → Int)} {cs pend : List (rf_N × (Int → Int))} {root : rf_N × (Int → Int)} (h : vx_H S u al sn se (c :: pend) root) (hb : ∀ rk r, vx_bl rk r c.1 → ∀ d ∈ cs, vx_bl rk r d.1) (ho : ∀ U G, vx_ex S U → vx_eg S u G → (∀ d ∈ cs, vx_O U G S.2.2.2.2 al d) → vx_O U G S.2.2.2.2 al c) : vx_H S u al sn se (cs ++ pend) root := fun U G rk hr hx hg => by
  obtain ⟨h1, h2⟩ := h U G rk hr hx hg
  refine ⟨fun m hm hp => h1 m hm (fun d hd hl => ?_), fun hp => h2 (fun d hd => ?_)⟩
  · rcases List.mem_cons.mp hd with rfl | hd
    · exact ho U G hx hg (fun d' hd' => hp d' (List.mem_append_left _ hd') (hb rk _ hl d' hd'))
    · exact hp d (List.mem_append_right _ hd) hl
  · rcases List.mem_cons.mp hd with rfl | hd
    · exact ho U G hx hg (fun d' hd' => hp d' (List.mem_append_left _ hd'))
    · exact hp d (List.mem_append_right _ hd)
theorem vx_H_lam {S : vx_S} {u : Int} {al : Int → Prop} {sn : Int → Prop} {se : Int → Int → Prop} {j : Nat} {x L : Int} {F : rf_N} {e : Int → Int} {pend : List (rf_N × (Int → Int))} {root : rf_N × (Int → Int)} (hL : al L) (h : vx_H S u al sn se ((rf_n j 0 x F .leaf, e) :: pend) root) : vx_H S u al sn se ((F, vx_up e x L) :: pend) root := vx_H_rep (cs := [(F, vx_up e x L)]) h (fun rk r hl d hd => by
  rw [List.mem_singleton.mp hd]
  exact fun m hm => hl m (Or.inr (Or.inl ⟨by show (0 : Int) ≠ 3; decide, hm⟩))) (fun U G _ _ ho => ⟨(vx_OK_lam hL).mpr (ho _ List.mem_cons_self).1, fun m hm => by
  rcases hm with ⟨c, _⟩ | ⟨_, hm⟩ | hm
  · exact absurd c vx_03
  · exact (ho _ List.mem_cons_self).2 m hm
  · exact hm.elim⟩)
theorem vx_H_rig {S : vx_S} {u : Int} {al : Int → Prop} {sn : Int → Prop} {se : Int → Int → Prop} {j : Nat} {k h : Int} {F : rf_N} {e : Int → Int} {pend : List (rf_N × (Int → Int))} {root : rf_N × (Int → Int)} (h0 : k ≠ 0) (h3 : k ≠ 3) (ha : k = 2 → al (e h)) (hh : vx_H S u al sn se ((rf_n j k h F .leaf, e) :: pend) root) : vx_H S u al sn se ((vx_el F).map (fun A => (A, e)) ++ pend) root := vx_H_rep hh (fun rk r hl d hd => by
  obtain ⟨A, hA, rfl⟩ := List.mem_map.mp hd
  exact fun m hm => hl m (Or.inr (Or.inl ⟨h3, vx_mt_el.mpr ⟨A, hA, hm⟩⟩))) (fun U G _ _ ho => ⟨(vx_OK_rig h0 h3).mpr ⟨ha, fun A hA => (ho _ (List.mem_map_of_mem hA)).1⟩, fun m hm => by
  rcases hm with ⟨c, _⟩ | ⟨_, hm⟩ | hm
  · exact absurd c h3
  · obtain ⟨A, hA, hm⟩ := vx_mt_el.mp hm
    exact (ho _ (List.mem_map_of_mem hA)).2 m hm
  · exact hm.elim⟩)
/-- a call that is allowed whatever is used -/
theorem vx_H_drop {S : vx_S} {u : Int} {al : Int → Prop} {sn : Int → Prop} {se : Int → Int → Prop} {c : rf_N × (Int → Int)} {pend : List (rf_N × (Int → Int))} {root : rf_N × (Int → Int)} (ho : ∀ U G, vx_ex S U → vx_eg S u G → vx_O U G S.2.2.2.2 al c) (h : vx_H S u al sn se (c :: pend) root) : vx_H S u al sn se pend root := vx_H_rep (cs := []) h (fun _ _ _ _ hd => absurd hd List.not_mem_nil) (fun U G hx hg _ => ho U G hx hg)
theorem vx_mt_call {x m : Int} {j : Nat} {F : rf_N} (h : vx_mt x (rf_n j 3 m F .leaf)) : x = m := by
  rcases h with ⟨_, h⟩ | ⟨c, _⟩ | h
  · exact h.symm
  · exact absurd rfl c
  · exact h.elim
theorem vx_fv_ar {U : Int → Int → Prop} {AR AR' : Nat → List Int} {z : Int} : ∀ {A : rf_N}, (∀ j ∈ rf_idx A, AR' j = AR j) → (vx_fv U AR' z A ↔ vx_fv U AR z A)
  | .leaf, _ => Iff.rfl
  | .inner j q u F X, hj => by
    have a := vx_fv_ar (U := U) (z := z) (A := F) (fun i hi => hj i (List.mem_cons_of_mem _ (List.mem_append_left _ hi)))
    have b := vx_fv_ar (U := U) (z := z) (A := X) (fun i hi => hj i (List.mem_cons_of_mem _ (List.mem_append_right _ hi)))
    show (((q.1 = 0 ∧ z ≠ q.2 ∧ vx_fv U AR' z F) ∨ (q.1 = 3 ∧ ∃ i : Nat, (AR' j)[i]? = some z ∧ U q.2 i) ∨ (q.1 ≠ 0 ∧ q.1 ≠ 3 ∧ ((q.1 = 2 ∧ z = q.2) ∨ vx_fv U AR' z F))) ∨ vx_fv U AR' z X) ↔ (((q.1 = 0 ∧ z ≠ q.2 ∧ vx_fv U AR z F) ∨ (q.1 = 3 ∧ ∃ i : Nat, (AR j)[i]? = some z ∧ U q.2 i) ∨ (q.1 ≠ 0 ∧ q.1 ≠ 3 ∧ ((q.1 = 2 ∧ z = q.2) ∨ vx_fv U AR z F))) ∨ vx_fv U AR z X)
    rw [a, b, hj j List.mem_cons_self]
/-- more is known: the open unknown x got a body -/
theorem vx_H_le {S T : vx_S} {u : Int} {al : Int → Prop} {sn : Int → Prop} {se : Int → Int → Prop} {pend : List (rf_N × (Int → Int))} {root : rf_N × (Int → Int)} (hW : vx_W S) (hle : vx_le S T) (hp : ∀ c ∈ root :: pend, vx_in S c.1) (hop : ∀ G, vx_eg T u G → ∀ m, S.2.2.2.1 m = none → m ≠ u → G m) (h : vx_H S u al sn se pend root) : vx_H T u al sn se pend root := fun U G rk hr hx hg => by
  have okc : ∀ c : rf_N × (Int → Int), vx_in S c.1 → (vx_O U G T.2.2.2.2 al c ↔ vx_O U G S.2.2.2.2 al c) := fun c hc => by
    unfold vx_O vx_OK
    refine and_congr_left (fun _ => forall_congr' (fun z => ?_))
    rw [vx_fv_ar (fun j hj => hle.2.2.2 j (hc.2.1 j hj))]
  have hrS : vx_rk S rk := fun u B e m hb hm => hr u B e m (hle.2.2.1 u B e hb) hm
  have hxS : vx_ex S U := fun m B e j hb hu => by
    obtain ⟨z, h1, h2⟩ := hx m B e j (hle.2.2.1 m B e hb) hu
    exact ⟨z, (vx_fv_ar (fun j hj => hle.2.2.2 j ((hW m B e hb).2.1.2.1 j hj))).mp h1, h2⟩
  have hgS : vx_eg S u G := ⟨fun m hm hu => hop G hg m hm hu, fun m B e hb hm => hg.2 m B e (hle.2.2.1 m B e hb) hm⟩
  obtain ⟨h1, h2⟩ := h U G rk hrS hxS hgS
  refine ⟨fun m hm hq => h1 m hm (fun d hd hl => (okc d (hp d (List.mem_cons_of_mem _ hd))).mp (hq d hd hl)), fun hq => ?_⟩
  exact (okc root (hp root List.mem_cons_self)).mpr (h2 (fun d hd => (okc d (hp d (List.mem_cons_of_mem _ hd))).mp (hq d hd)))
/-- into the body of an unknown that has one -/
theorem vx_H_body {S : vx_S} {u : Int} {al : Int → Prop} {sn kp : Int → Prop} {se se' : Int → Int → Prop} {j : Nat} {m : Int} {F B : rf_N} {e em e' : Int → Int} {pend : List (rf_N × (Int → Int))} {root : rf_N × (Int → Int)} (hb : S.2.2.2.1 m = some (B, em)) (hP : ∀ z, 0 ≤ em z → e' z = ((S.2.2.2.2 j).map e).getD (em z).toNat (-1)) (hN : ∀ z, em z < 0 → ¬ al (e' z)) (hl : ∀ z, em z < ((S.2.2.2.2 j).length : Int)) (hk : ∀ (n : Nat) (z : Int), (S.2.2.2.2 j)[n]? = some z → (kp n ↔ al (e z))) (hse : ∀ i, kp i → (sn m → se m i) → se' m i) (hse' : ∀ x i, x ≠ m → se x i → se' x i) (h : vx_H S u al sn se ((rf_n j 3 m F .leaf, e) :: pend) root) : vx_H S u al (fun x => x = m ∨ sn x) se' ((B, e') :: pend) root := fun U G rk hr hx hg => by
  obtain ⟨h1, h2⟩ := h U G rk hr hx hg
  have hB : vx_OK U S.2.2.2.2 al (B, e') → ∀ i, U m i → kp i := fun ho i hu => by
    obtain ⟨z, z1, z2⟩ := hx m B em i hb hu
    have a1 := ho z z1
    have a1' : al (e' z) := a1
    have a2 : 0 ≤ em z := Int.not_lt.mp (fun c => hN z c a1')
    have a3 := hl z
    rw [hP z a2] at a1'
    have hi : (em z).toNat < (S.2.2.2.2 j).length := by omega
    rw [vx_getD_map e _ _ hi, vx_gD hi] at a1'
    have := (hk _ _ (List.getElem?_eq_getElem hi)).mpr a1'
    rw [Int.toNat_of_nonneg a2, z2] at this
    exact this
  have hC : vx_O U G S.2.2.2.2 al (B, e') → vx_O U G S.2.2.2.2 al (rf_n j 3 m F .leaf, e) := fun ho => ⟨vx_OK_call.mpr (fun i z i1 i2 => (hk i z i1).mp (hB ho.1 i i2)), fun x hx' => by
    rw [vx_mt_call hx']
    exact hg.2 m B em hb ho.2⟩
  have hbl : ∀ r, rk m ≤ r → vx_bl rk r B := fun r hr' x hx' => by
    have := hr m B em x hb hx'
    omega
  refine ⟨fun x hx' hp => ?_, fun hp => h2 (fun d hd => ?_)⟩
  · by_cases c : x = m
    · subst c
      have oB := hp (B, e') List.mem_cons_self (hbl _ (Nat.le_refl _))
      refine ⟨hg.2 x B em hb oB.2, fun i hu => hse i (hB oB.1 i hu) (fun hs => (h1 x hs (fun d hd hl' => ?_)).2 i hu)⟩
      rcases List.mem_cons.mp hd with rfl | hd
      · exact absurd (hl' x (Or.inl ⟨rfl, rfl⟩)) (Nat.lt_irrefl _)
      · exact hp d (List.mem_cons_of_mem _ hd) hl'
    · rcases hx' with hx' | hx'
      · exact absurd hx' c
      · have := h1 x hx' (fun d hd hl' => by
          rcases List.mem_cons.mp hd with rfl | hd
          · have := hl' m (Or.inl ⟨rfl, rfl⟩)
            exact hC (hp (B, e') List.mem_cons_self (hbl _ (by omega)))
          · exact hp d (List.mem_cons_of_mem _ hd) hl')
        exact ⟨this.1, fun i hu => hse' x i c (this.2 i hu)⟩
  · rcases List.mem_cons.mp hd with rfl | hd
    · exact hC (hp (B, e') List.mem_cons_self)
    · exact hp d (List.mem_cons_of_mem _ hd)
/-- an unknown that has been walked through with no more allowed -/
theorem vx_H_skip {S : vx_S} {u : Int} {al : Int → Prop} {sn : Int → Prop} {se : Int → Int → Prop} {j : Nat} {m : Int} {F : rf_N} {e : Int → Int} {pend : List (rf_N × (Int → Int))} {root : rf_N × (Int → Int)} (hs : sn m) (hk : ∀ i : Nat, se m i → ∀ z, (S.2.2.2.2 j)[i]? = some z → al (e z)) (h : vx_H S u al sn se ((rf_n j 3 m F .leaf, e) :: pend) root) : vx_H S u al sn se pend root := fun U G rk hr hx hg => by
  obtain ⟨h1, h2⟩ := h U G rk hr hx hg
  have key : (∀ c ∈ pend, vx_bl rk (rk m) c.1 → vx_O U G S.2.2.2.2 al c) → vx_O U G S.2.2.2.2 al (rf_n j 3 m F .leaf, e) := fun hp => by
    obtain ⟨a1, a2⟩ := h1 m hs (fun d hd hl' => by
      rcases List.mem_cons.mp hd with rfl | hd
      · exact absurd (hl' m (Or.inl ⟨rfl, rfl⟩)) (Nat.lt_irrefl _)
      · exact hp d hd hl')
    exact ⟨vx_OK_call.mpr (fun i z i1 i2 => hk i (a2 i i2) z i1), fun x hx' => by
      rw [vx_mt_call hx']
      exact a1⟩
  refine ⟨fun x hx' hp => h1 x hx' (fun d hd hl' => ?_), fun hp => h2 (fun d hd => ?_)⟩
  · rcases List.mem_cons.mp hd with rfl | hd
    · have hm := hl' m (Or.inl ⟨rfl, rfl⟩)
      exact key (fun d hd hl'' => hp d hd (fun y hy => by
        have := hl'' y hy
        omega))
    · exact hp d hd hl'
  · rcases List.mem_cons.mp hd with rfl | hd
    · exact key (fun d hd _ => hp d hd)
    · exact hp d hd
