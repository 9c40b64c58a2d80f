/-! ===== numbering, as a walk over what is still to be read (pure) ===== -/
/-- a term, what its variables are, how many are bound around -/
abbrev wd_I : Type := rf_N × (Int → Int) × Int
def wd_v (th : Int → rf_N) (AR : Nat → List Int) (q : wd_I) : rf_N := vx_val th AR q.1 q.2.1 q.2.2
/-- all of it, one behind the other -/
def wd_f (th : Int → rf_N) (AR : Nat → List Int) : List wd_I → List (Int × List Int) → List (Int × List Int)
  | [], a => a
  | q :: l, a => wd_f th AR l (wz_go (wd_v th AR q) a)
theorem wd_f_app {th : Int → rf_N} {AR : Nat → List Int} {l : List wd_I} : ∀ {l' : List wd_I} {a : List (Int × List Int)}, wd_f th AR (l' ++ l) a = wd_f th AR l (wd_f th AR l' a)
  | [], _ => rfl
  | q :: l', a => wd_f_app (l' := l')
/-- sn: the given unknowns that were read, or are being read: what is met in them is numbered, or stands in what comes first -/
def wd_P (th : Int → rf_N) (AR : Nat → List Int) (rk : Int → Nat) (sn : Int → Prop) (a Z : List (Int × List Int)) (l : List wd_I) : Prop := True → wd_f th AR l a = Z ∧ ∀ m, sn m → ∃ l1 l2, l = l1 ++ l2 ∧ (∀ x, wz_oc x (th m) → x ∈ a.map Prod.fst ∨ ∃ q ∈ l1, wz_oc x (wd_v th AR q)) ∧ ∀ q ∈ l1, vx_bl rk (rk m) q.1
theorem wd_P_rep {th : Int → rf_N} {AR : Nat → List Int} {rk : Int → Nat} {sn : Int → Prop} {a Z : List (Int × List Int)} {q : wd_I} {qs l : List wd_I} (hf : ∀ a, wd_f th AR qs a = wz_go (wd_v th AR q) a) (ho : ∀ x, wz_oc x (wd_v th AR q) → ∃ q' ∈ qs, wz_oc x (wd_v th AR q')) (hb : ∀ r, vx_bl rk r q.1 → ∀ q' ∈ qs, vx_bl rk r q'.1) (h : wd_P th AR rk sn a Z (q :: l)) : wd_P th AR rk sn a Z (qs ++ l) := fun _ => by
  obtain ⟨h1, h2⟩ := h trivial
  refine ⟨by rw [wd_f_app, hf]; exact h1, fun m hm => ?_⟩
  obtain ⟨l1, l2, e, h3, h4⟩ := h2 m hm
  cases l1 with
  | nil => exact ⟨[], qs ++ l, rfl, fun x hx => (h3 x hx).imp id (fun ⟨q', hq, _⟩ => absurd hq List.not_mem_nil), fun q' hq => absurd hq List.not_mem_nil⟩
  | cons q0 l1 =>
    rw [List.cons_append] at e
    obtain ⟨e1, e2⟩ := List.cons.inj e
    subst e1 e2
    refine ⟨qs ++ l1, l2, (List.append_assoc _ _ _).symm, fun x hx => ?_, fun q' hq => ?_⟩
    · rcases h3 x hx with c | ⟨q', hq, hx'⟩
      · exact Or.inl c
      · rcases List.mem_cons.mp hq with rfl | hq
        · obtain ⟨q2, c1, c2⟩ := ho x hx'
          exact Or.inr ⟨q2, List.mem_append_left _ c1, c2⟩
        · exact Or.inr ⟨q', List.mem_append_right _ hq, hx'⟩
    · rcases List.mem_append.mp hq with hq | hq
      · exact hb _ (h4 q List.mem_cons_self) q' hq
      · exact h4 q' (List.mem_cons_of_mem _ hq)
/-- an open unknown is numbered -/
theorem wd_P_op {th : Int → rf_N} {AR : Nat → List Int} {rk : Int → Nat} {sn : Int → Prop} {a Z : List (Int × List Int)} {q : wd_I} {l : List wd_I} {h : Int} {F : rf_N} (hv : wd_v th AR q = rf_n 0 1 h F .leaf) (hh : h < 0) (hP : wd_P th AR rk sn a Z (q :: l)) : wd_P th AR rk sn (wz_ad a h (dz_hs F)) Z l := fun _ => by
  obtain ⟨h1, h2⟩ := hP trivial
  have e1 : wz_go (wd_v th AR q) a = wz_ad a h (dz_hs F) := by
    rw [hv]
    show wz_go (.inner 0 (1, h) () F .leaf) a = _
    rw [wz_go_in, if_pos ⟨rfl, hh⟩]
    rfl
  have h1' : wd_f th AR l (wz_go (wd_v th AR q) a) = Z := h1
  rw [e1] at h1'
  refine ⟨h1', fun m hm => ?_⟩
  obtain ⟨l1, l2, e, h3, h4⟩ := h2 m hm
  have ex : ∀ x, wz_oc x (wd_v th AR q) → x ∈ (wz_ad a h (dz_hs F)).map Prod.fst := fun x hx => by
    rw [← e1, wz_go_mem]
    exact Or.inr hx
  have ea : ∀ x, x ∈ a.map Prod.fst → x ∈ (wz_ad a h (dz_hs F)).map Prod.fst := fun x hx => wz_ad_mem.mpr (Or.inl hx)
  cases l1 with
  | nil => exact ⟨[], l, rfl, fun x hx => (h3 x hx).imp (ea x) (fun ⟨q', hq, _⟩ => absurd hq List.not_mem_nil), fun q' hq => absurd hq List.not_mem_nil⟩
  | cons q0 l1 =>
    rw [List.cons_append] at e
    obtain ⟨e1, e2⟩ := List.cons.inj e
    subst e1 e2
    refine ⟨l1, l2, rfl, fun x hx => ?_, fun q' hq => h4 q' (List.mem_cons_of_mem _ hq)⟩
    rcases h3 x hx with c | ⟨q', hq, hx'⟩
    · exact Or.inl (ea x c)
    · rcases List.mem_cons.mp hq with rfl | hq
      · exact Or.inl (ex x hx')
      · exact Or.inr ⟨q', hq, hx'⟩
/-- a call whose open unknowns are all numbered is passed over -/
theorem wd_P_drop {th : Int → rf_N} {AR : Nat → List Int} {rk : Int → Nat} {sn : Int → Prop} {a Z : List (Int × List Int)} {q : wd_I} {l : List wd_I} (hs : ∀ x, wz_oc x (wd_v th AR q) → x ∈ a.map Prod.fst) (hP : wd_P th AR rk sn a Z (q :: l)) : wd_P th AR rk sn a Z l := fun _ => by
  obtain ⟨h1, h2⟩ := hP trivial
  have h1' : wd_f th AR l (wz_go (wd_v th AR q) a) = Z := h1
  rw [wz_go_sub hs] at h1'
  refine ⟨h1', fun m hm => ?_⟩
  obtain ⟨l1, l2, e, h3, h4⟩ := h2 m hm
  cases l1 with
  | nil => exact ⟨[], l, rfl, fun x hx => (h3 x hx).imp id (fun ⟨q', hq, _⟩ => absurd hq List.not_mem_nil), fun q' hq => absurd hq List.not_mem_nil⟩
  | cons q0 l1 =>
    rw [List.cons_append] at e
    obtain ⟨e1, e2⟩ := List.cons.inj e
    subst e1 e2
    refine ⟨l1, l2, rfl, fun x hx => ?_, fun q' hq => h4 q' (List.mem_cons_of_mem _ hq)⟩
    rcases h3 x hx with c | ⟨q', hq, hx'⟩
    · exact Or.inl c
    · rcases List.mem_cons.mp hq with rfl | hq
      · exact Or.inl (hs x hx')
      · exact Or.inr ⟨q', hq, hx'⟩
/-- a given unknown that was read: all is numbered that stands in it -/
theorem wd_P_sn {th : Int → rf_N} {AR : Nat → List Int} {rk : Int → Nat} {sn : Int → Prop} {a Z : List (Int × List Int)} {q : wd_I} {l : List wd_I} {m : Int} (hm : sn m) (hq : vx_mt m q.1) (hP : wd_P th AR rk sn a Z (q :: l)) : ∀ x, wz_oc x (th m) → x ∈ a.map Prod.fst := fun x hx => by
  obtain ⟨_, h2⟩ := hP trivial
  obtain ⟨l1, l2, e, h3, h4⟩ := h2 m hm
  cases l1 with
  | nil =>
    rcases h3 x hx with c | ⟨q', hq', _⟩
    · exact c
    · exact absurd hq' List.not_mem_nil
  | cons q0 l1 =>
    rw [List.cons_append] at e
    obtain ⟨e1, _⟩ := List.cons.inj e
    subst e1
    exact absurd (h4 q List.mem_cons_self m hq) (Nat.lt_irrefl _)
/-- into the body of one that was not yet read -/
theorem wd_P_in {th : Int → rf_N} {AR : Nat → List Int} {rk : Int → Nat} {sn sn' : Int → Prop} {a Z : List (Int × List Int)} {q q' : wd_I} {l : List wd_I} {m : Int} (hs : ∀ x, sn' x → sn x ∨ x = m) (hv : wd_v th AR q' = wd_v th AR q) (ho : ∀ x, wz_oc x (th m) → wz_oc x (wd_v th AR q)) (hm : vx_mt m q.1) (hb : vx_bl rk (rk m) q'.1) (hP : wd_P th AR rk sn a Z (q :: l)) : wd_P th AR rk sn' a Z (q' :: l) := fun _ => by
  obtain ⟨h1, h2⟩ := wd_P_rep (qs := [q']) (fun a => by show wz_go (wd_v th AR q') a = _; rw [hv]) (fun x hx => ⟨q', List.mem_cons_self, by rw [hv]; exact hx⟩) (fun r hr q2 hq2 => by
    rw [List.mem_singleton.mp hq2]
    intro x hx
    have c1 := hb x hx
    have c2 := hr m hm
    omega) hP trivial
  refine ⟨h1, fun x hx => ?_⟩
  rcases hs x hx with c | c
  · exact h2 x c
  · subst c
    exact ⟨[q'], l, rfl, fun z hz => Or.inr ⟨q', List.mem_cons_self, by rw [hv]; exact ho z hz⟩, fun q2 hq2 => by rw [List.mem_singleton.mp hq2]; exact hb⟩
/-- a \; a head with ARGs -/
theorem wd_P_lam {th : Int → rf_N} {AR : Nat → List Int} {rk : Int → Nat} {sn : Int → Prop} {a Z : List (Int × List Int)} {j : Nat} {x L : Int} {F : rf_N} {e : Int → Int} {l : List wd_I} (hP : wd_P th AR rk sn a Z ((rf_n j 0 x F .leaf, e, L) :: l)) : wd_P th AR rk sn a Z ((F, vx_up e x L, L + 1) :: l) := by
  have ev : wd_v th AR (rf_n j 0 x F .leaf, e, L) = rf_n 0 0 0 (wd_v th AR (F, vx_up e x L, L + 1)) .leaf := by
    show vx_val th AR (rf_n j 0 x F .leaf) e L = _
    rw [vx_val_in, if_pos rfl]
    rfl
  refine wd_P_rep (qs := [(F, vx_up e x L, L + 1)]) (fun a => ?_) (fun z hz => ?_) (fun r hr q' hq' => ?_) hP
  · show wz_go (wd_v th AR (F, vx_up e x L, L + 1)) a = _
    rw [ev]
    show _ = wz_go (.inner 0 (0, 0) () (wd_v th AR (F, vx_up e x L, L + 1)) .leaf) a
    rw [wz_go_in, if_neg (by decide)]
    rfl
  · rw [ev] at hz
    have hz' : wz_oc z (.inner 0 (0, 0) () (wd_v th AR (F, vx_up e x L, L + 1)) .leaf) := hz
    rw [wz_oc_in, if_neg (by decide)] at hz'
    rcases hz' with hz' | hz'
    · exact ⟨_, List.mem_cons_self, hz'⟩
    · exact hz'.elim
  · rw [List.mem_singleton.mp hq']
    exact fun m hm => hr m (Or.inr (Or.inl ⟨vx_03, hm⟩))
theorem wd_go_el {th : Int → rf_N} {AR : Nat → List Int} (hg : ∀ m, vx_on (th m)) {e : Int → Int} {L : Int} : ∀ {F : rf_N} {a : List (Int × List Int)}, wd_f th AR ((vx_el F).map (fun A => (A, e, L))) a = wz_go (vx_val th AR F e L) a
  | .leaf, _ => rfl
  | .inner j q u F X, a => by
    show wd_f th AR ((vx_el X).map (fun A => (A, e, L))) (wz_go (vx_val th AR (.inner j q () F .leaf) e L) a) = _
    rw [wd_go_el hg (F := X), vx_val_1 hg j q u F X e L]
    obtain ⟨k, h, G, hG⟩ := vx_val_one hg (AR := AR) j q u F e L
    have hG' : vx_val th AR (.inner j q () F .leaf) e L = rf_n 0 k h G .leaf := hG
    rw [hG']
    rfl
theorem wd_oc_el {th : Int → rf_N} {AR : Nat → List Int} (hg : ∀ m, vx_on (th m)) {e : Int → Int} {L x : Int} : ∀ {F : rf_N}, wz_oc x (vx_val th AR F e L) → ∃ A ∈ vx_el F, wz_oc x (vx_val th AR A e L)
  | .leaf, h => h.elim
  | .inner j q u F X, h => by
    rw [vx_val_1 hg j q u F X e L, wz_sb_oc (vx_val_one hg j q u F e L)] at h
    rcases h with h | h
    · exact ⟨.inner j q () F .leaf, List.mem_cons_self, h⟩
    · obtain ⟨A, h1, h2⟩ := wd_oc_el hg h
      exact ⟨A, List.mem_cons_of_mem _ h1, h2⟩
theorem wd_P_rig {th : Int → rf_N} {AR : Nat → List Int} (hg : ∀ m, vx_on (th m)) {rk : Int → Nat} {sn : Int → Prop} {a Z : List (Int × List Int)} {j : Nat} {k h L : Int} {F : rf_N} {e : Int → Int} {l : List wd_I} (h0 : k ≠ 0) (h3 : k ≠ 3) (hc : k = 1 → 0 ≤ h) (hP : wd_P th AR rk sn a Z ((rf_n j k h F .leaf, e, L) :: l)) : wd_P th AR rk sn a Z ((vx_el F).map (fun A => (A, e, L)) ++ l) := by
  have ev : wd_v th AR (rf_n j k h F .leaf, e, L) = rf_n 0 k (if k = 2 then e h else h) (vx_val th AR F e L) .leaf := by
    show vx_val th AR (rf_n j k h F .leaf) e L = _
    rw [vx_val_in, if_neg h0, if_neg h3]
    rfl
  have hn : ¬ (k = 1 ∧ (if k = 2 then e h else h) < 0) := fun c => by
    obtain ⟨c1, c2⟩ := c
    rw [if_neg (by omega)] at c2
    have := hc c1
    omega
  refine wd_P_rep (fun a => ?_) (fun z hz => ?_) (fun r hr q' hq' => ?_) hP
  · rw [wd_go_el hg, ev]
    show _ = wz_go (.inner 0 (k, if k = 2 then e h else h) () (vx_val th AR F e L) .leaf) a
    rw [wz_go_in, if_neg hn]
    rfl
  · rw [ev] at hz
    have hz' : wz_oc z (.inner 0 (k, if k = 2 then e h else h) () (vx_val th AR F e L) .leaf) := hz
    rw [wz_oc_in, if_neg hn] at hz'
    rcases hz' with hz' | hz'
    · obtain ⟨A, c1, c2⟩ := wd_oc_el hg hz'
      exact ⟨(A, e, L), List.mem_map.mpr ⟨A, c1, rfl⟩, c2⟩
    · exact hz'.elim
  · obtain ⟨A, hA, rfl⟩ := List.mem_map.mp hq'
    exact fun m hm => hr m (Or.inr (Or.inl ⟨h3, vx_mt_el.mpr ⟨A, hA, hm⟩⟩))
