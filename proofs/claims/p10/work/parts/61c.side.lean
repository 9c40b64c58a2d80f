/-! ===== one side of a pair: its chain, its type, what is used ===== -/
theorem vx_nrev {α : Type} {l : List α} (h : l.Nodup) : l.reverse.Nodup := List.pairwise_reverse.mpr (List.Pairwise.imp (fun h e => h e.symm) h)
theorem dv_lk_c (p : Int × Int) (r : List (Int × Int)) (x : Int) : dv_lk (p :: r) x = if p.1 = x then p.2 else dv_lk r x := rfl
theorem dv_va_c (p : Int × Int) (r : List (Int × Int)) (x : Int) : dv_va (p :: r) x = if p.2 = x then p.1 else dv_va r x := rfl
theorem dv_lk_mem {l : List (Int × Int)} (hn : (l.map Prod.fst).Nodup) {p : Int × Int} (h : p ∈ l) : dv_lk l p.1 = p.2 := by
  induction l with
  | nil => exact absurd h List.not_mem_nil
  | cons q r ih =>
    rw [List.map_cons] at hn
    obtain ⟨n1, n2⟩ := List.nodup_cons.mp hn
    rw [dv_lk_c]
    rcases List.mem_cons.mp h with rfl | h
    · rw [if_pos rfl]
    · rw [if_neg (fun e => n1 (by rw [e]; exact List.mem_map_of_mem h))]
      exact ih n2 h
theorem dv_lk_out {l : List (Int × Int)} {x : Int} (h : x ∉ l.map Prod.fst) : dv_lk l x = -1 := by
  induction l with
  | nil => rfl
  | cons q r ih =>
    rw [List.map_cons] at h
    rw [dv_lk_c, if_neg (fun e => h (by rw [e]; exact List.mem_cons_self))]
    exact ih (fun m => h (List.mem_cons_of_mem _ m))
theorem dv_lk_in {l : List (Int × Int)} {x : Int} : (x, dv_lk l x) ∈ l ∨ (dv_lk l x = -1 ∧ x ∉ l.map Prod.fst) := by
  induction l with
  | nil => exact Or.inr ⟨rfl, List.not_mem_nil⟩
  | cons q r ih =>
    rw [dv_lk_c]
    by_cases e : q.1 = x
    · rw [if_pos e]
      refine Or.inl (List.mem_cons.mpr (Or.inl ?_))
      rw [← e]
    · rw [if_neg e]
      rcases ih with ih | ⟨ih1, ih2⟩
      · exact Or.inl (List.mem_cons_of_mem _ ih)
      · refine Or.inr ⟨ih1, fun m => ?_⟩
        rw [List.map_cons] at m
        rcases List.mem_cons.mp m with m | m
        · exact e m.symm
        · exact ih2 m
theorem dv_va_in {l : List (Int × Int)} {x : Int} : (dv_va l x, x) ∈ l ∨ (dv_va l x = -1 ∧ x ∉ l.map Prod.snd) := by
  induction l with
  | nil => exact Or.inr ⟨rfl, List.not_mem_nil⟩
  | cons q r ih =>
    rw [dv_va_c]
    by_cases e : q.2 = x
    · rw [if_pos e]
      refine Or.inl (List.mem_cons.mpr (Or.inl ?_))
      rw [← e]
    · rw [if_neg e]
      rcases ih with ih | ⟨ih1, ih2⟩
      · exact Or.inl (List.mem_cons_of_mem _ ih)
      · refine Or.inr ⟨ih1, fun m => ?_⟩
        rw [List.map_cons] at m
        rcases List.mem_cons.mp m with m | m
        · exact e m.symm
        · exact ih2 m
/-- a good chain: each variable once, levels below L, no level twice -/
def vx_ck (L : Int) (c : List (Int × Int)) : Prop := True → (c.map Prod.fst).Nodup ∧ (∀ p ∈ c, -1 ≤ p.2 ∧ p.2 < L ∧ 0 ≤ p.1) ∧ ∀ p ∈ c, ∀ q ∈ c, 0 ≤ p.2 → p.2 = q.2 → p.1 = q.1
theorem vx_ck_lk {L : Int} {c : List (Int × Int)} (hL : 0 ≤ L) (h : vx_ck L c) : (∀ z, -1 ≤ dv_lk c z ∧ dv_lk c z < L) ∧ ∀ z z', 0 ≤ dv_lk c z → dv_lk c z = dv_lk c z' → z = z' := by
  obtain ⟨h1, h2, h3⟩ := h trivial
  refine ⟨fun z => ?_, fun z z' hz he => ?_⟩
  · rcases dv_lk_in (l := c) (x := z) with m | ⟨m, _⟩
    · exact ⟨(h2 _ m).1, (h2 _ m).2.1⟩
    · omega
  · rcases dv_lk_in (l := c) (x := z) with m | ⟨m, _⟩
    · rcases dv_lk_in (l := c) (x := z') with m' | ⟨m', _⟩
      · exact h3 _ m _ m' hz he
      · omega
    · omega
theorem vx_ck_nil (L : Int) : vx_ck L [] := fun _ => ⟨List.nodup_nil, fun _ h => absurd h List.not_mem_nil, fun _ h => absurd h List.not_mem_nil⟩
theorem vx_ck_up {L x : Int} {c : List (Int × Int)} (hL : 0 ≤ L) (hx0 : 0 ≤ x) (h : vx_ck L c) (hx : x ∉ c.map Prod.fst) : vx_ck (L + 1) ((x, L) :: c) := fun _ => by
  obtain ⟨h1, h2, h3⟩ := h trivial
  refine ⟨List.nodup_cons.mpr ⟨hx, h1⟩, fun p hp => ?_, fun p hp q hq p0 he => ?_⟩
  · rcases List.mem_cons.mp hp with rfl | hp
    · exact ⟨by show -1 ≤ L; omega, by show L < L + 1; omega, hx0⟩
    · have := h2 p hp
      omega
  · rcases List.mem_cons.mp hp with rfl | hp
    · rcases List.mem_cons.mp hq with rfl | hq
      · rfl
      · have := h2 q hq
        have he' : L = q.2 := he
        omega
    · rcases List.mem_cons.mp hq with rfl | hq
      · have := h2 p hp
        have he' : p.2 = L := he
        omega
      · exact h3 p hp q hq p0 he
theorem dv_lk_up {x L : Int} {c : List (Int × Int)} : dv_lk ((x, L) :: c) = vx_up (dv_lk c) x L := by
  funext z
  rw [dv_lk_c]
  unfold vx_up
  by_cases h : x = z
  · rw [if_pos h, if_pos h.symm]
  · rw [if_neg h, if_neg (fun e => h e.symm)]
/-- the chain of a body -/
theorem vx_ck_in {L : Int} {c P : List (Int × Int)} {hs : List Int} (hL : 0 ≤ L) (h : vx_ck L c) (hP1 : (P.map Prod.fst).Nodup) (hP2 : (P.map Prod.snd).Nodup) (hP3 : ∀ q ∈ P, 0 ≤ q.2 ∧ q.2 < (hs.length : Int)) (hP0 : ∀ q ∈ P, 0 ≤ q.1) (hn : hs.Nodup) : vx_ck L (dv_in P hs c) := fun _ => by
  obtain ⟨l1, l2⟩ := vx_ck_lk hL h
  have key : ∀ p, p ∈ dv_in P hs c → ∃ q ∈ P, p = (q.1, dv_lk c (hs.getD q.2.toNat (-1))) := fun p hp => by
    obtain ⟨q, q1, q2⟩ := List.mem_map.mp (List.mem_reverse.mp hp)
    exact ⟨q, q1, q2.symm⟩
  refine ⟨?_, fun p hp => ?_, fun p hp p' hp' p0 he => ?_⟩
  · unfold dv_in
    rw [List.map_reverse, List.map_map]
    exact vx_nrev hP1
  · obtain ⟨q, hq0, rfl⟩ := key p hp
    exact ⟨(l1 _).1, (l1 _).2, hP0 q hq0⟩
  · obtain ⟨q, q1, rfl⟩ := key p hp
    obtain ⟨q', q1', rfl⟩ := key p' hp'
    have e1 := l2 _ _ p0 he
    obtain ⟨a1, a2⟩ := hP3 q q1
    obtain ⟨b1, b2⟩ := hP3 q' q1'
    have hi : q.2.toNat < hs.length := by omega
    have hi' : q'.2.toNat < hs.length := by omega
    rw [vx_gD hi, vx_gD hi'] at e1
    have e2 : q.2.toNat = q'.2.toNat := (List.getElem_inj hn).mp e1
    have e3 : q.2 = q'.2 := by omega
    show q.1 = q'.1
    have : q = q' := by
      obtain ⟨n, hn1, hn2⟩ := List.getElem_of_mem q1
      obtain ⟨n', hn1', hn2'⟩ := List.getElem_of_mem q1'
      have : n = n' := (List.getElem_inj (h₀ := by rw [List.length_map]; exact hn1) (h₁ := by rw [List.length_map]; exact hn1') hP2).mp (by rw [List.getElem_map, List.getElem_map, hn2, hn2', e3])
      subst this
      rw [← hn2, ← hn2']
    rw [this]
theorem dv_lk_rev {P : List (Int × Int)} (hP1 : (P.map Prod.fst).Nodup) : (P.reverse.map Prod.fst).Nodup := by
  rw [List.map_reverse]
  exact vx_nrev hP1
/-- what a variable of the body is, by the call -/
theorem dv_in_lk {c P : List (Int × Int)} {hs : List Int} (hP1 : (P.map Prod.fst).Nodup) (hP3 : ∀ q ∈ P, 0 ≤ q.2 ∧ q.2 < (hs.length : Int)) : (∀ z, 0 ≤ dv_lk P.reverse z → dv_lk (dv_in P hs c) z = (hs.map (dv_lk c)).getD (dv_lk P.reverse z).toNat (-1)) ∧ (∀ z, dv_lk P.reverse z < 0 → dv_lk (dv_in P hs c) z = -1) ∧ ∀ z, dv_lk P.reverse z < (hs.length : Int) := by
  have n1 := dv_lk_rev hP1
  have n2 : ((dv_in P hs c).map Prod.fst).Nodup := by
    unfold dv_in
    rw [List.map_reverse, List.map_map]
    exact vx_nrev hP1
  refine ⟨fun z hz => ?_, fun z hz => ?_, fun z => ?_⟩
  · rcases dv_lk_in (l := P.reverse) (x := z) with m | ⟨m, _⟩
    · have m' := List.mem_reverse.mp m
      obtain ⟨a1, a2⟩ := hP3 _ m'
      have hi : (dv_lk P.reverse z).toNat < hs.length := by
        have a2' : dv_lk P.reverse z < (hs.length : Int) := a2
        omega
      have m2 : (z, dv_lk c (hs.getD (dv_lk P.reverse z).toNat (-1))) ∈ dv_in P hs c := by
        unfold dv_in
        exact List.mem_reverse.mpr (List.mem_map.mpr ⟨_, m', rfl⟩)
      rw [vx_getD_map _ _ _ hi]
      exact dv_lk_mem n2 m2
    · omega
  · refine dv_lk_out (fun m => ?_)
    obtain ⟨p, p1, p2⟩ := List.mem_map.mp m
    unfold dv_in at p1
    obtain ⟨q, q1, q2⟩ := List.mem_map.mp (List.mem_reverse.mp p1)
    have q3 := dv_lk_mem n1 (List.mem_reverse.mpr q1)
    have e : q.1 = z := by
      rw [← p2, ← q2]
    rw [e] at q3
    have := hP3 q q1
    omega
  · rcases dv_lk_in (l := P.reverse) (x := z) with m | ⟨m, _⟩
    · exact (hP3 _ (List.mem_reverse.mp m)).2
    · omega
/-- each \ binds a variable of its own, none of those outside -/
def vx_nb : rf_N → (Int → Prop) → Prop
  | .leaf, _ => True
  | .inner _ q _ F X, V => ((q.1 = 0 ∧ (0 ≤ q.2 ∧ ¬ V q.2) ∧ vx_nb F (fun z => z = q.2 ∨ V z)) ∨ (q.1 ≠ 0 ∧ q.1 ≠ 3 ∧ vx_nb F V) ∨ q.1 = 3) ∧ vx_nb X V
theorem vx_nb_mono : ∀ {A : rf_N} {V V' : Int → Prop}, (∀ z, V' z → V z) → vx_nb A V → vx_nb A V'
  | .leaf, _, _, _, _ => trivial
  | .inner j q u F X, V, V', h, ⟨h1, h2⟩ => by
    refine ⟨?_, vx_nb_mono h h2⟩
    rcases h1 with ⟨a, b, c⟩ | ⟨a, b, c⟩ | a
    · exact Or.inl ⟨a, ⟨b.1, fun m => b.2 (h _ m)⟩, vx_nb_mono (fun z hz => hz.imp id (h z)) c⟩
    · exact Or.inr (Or.inl ⟨a, b, vx_nb_mono h c⟩)
    · exact Or.inr (Or.inr a)
theorem vx_nb_el {V : Int → Prop} {B : rf_N} : ∀ {F : rf_N}, vx_nb F V → B ∈ vx_el F → vx_nb B V
  | .leaf, _, h => absurd h List.not_mem_nil
  | .inner j q u F X, h, hB => by
    rcases List.mem_cons.mp hB with rfl | hB
    · exact ⟨h.1, trivial⟩
    · exact vx_nb_el h.2 hB
/-- types: of one term, of a row -/
def vx_ty (tv tc : Int → rf_T) (tm : Int → Int → rf_T) (AR : Nat → List Int) : rf_N → (rf_T → Prop) × (rf_T → Prop)
  | .leaf => (fun _ => False, fun u => u = rf_b)
  | .inner j q _ F X => (fun t => (q.1 = 0 ∧ ∃ B, t = rf_a (tv q.2) B ∧ (vx_ty tv tc tm AR F).1 B) ∨ (q.1 = 1 ∧ t = rf_b ∧ (vx_ty tv tc tm AR F).2 (tc q.2)) ∨ (q.1 = 2 ∧ t = rf_b ∧ (vx_ty tv tc tm AR F).2 (tv q.2)) ∨ (q.1 = 3 ∧ t = rf_b ∧ ∀ (i : Nat) y, (AR j)[i]? = some y → tv y = tm q.2 i), fun u => ∃ A B, u = rf_a A B ∧ ((q.1 = 0 ∧ ∃ B, A = rf_a (tv q.2) B ∧ (vx_ty tv tc tm AR F).1 B) ∨ (q.1 = 1 ∧ A = rf_b ∧ (vx_ty tv tc tm AR F).2 (tc q.2)) ∨ (q.1 = 2 ∧ A = rf_b ∧ (vx_ty tv tc tm AR F).2 (tv q.2)) ∨ (q.1 = 3 ∧ A = rf_b ∧ ∀ (i : Nat) y, (AR j)[i]? = some y → tv y = tm q.2 i)) ∧ (vx_ty tv tc tm AR X).2 B)
theorem vx_ty_el {tv tc : Int → rf_T} {tm : Int → Int → rf_T} {AR : Nat → List Int} : ∀ {F F' : rf_N} {u : rf_T}, (vx_ty tv tc tm AR F).2 u → (vx_ty tv tc tm AR F').2 u → rf_len F = rf_len F' ∧ ∀ (i : Nat) A B, (vx_el F)[i]? = some A → (vx_el F')[i]? = some B → ∃ t, (vx_ty tv tc tm AR A).1 t ∧ (vx_ty tv tc tm AR B).1 t
  | .leaf, .leaf, _, _, _ => ⟨rfl, fun i A B h => by simp [vx_el] at h⟩
  | .leaf, .inner _ _ _ _ _, u, h, ⟨A, B, e, _⟩ => by
    have h' : u = rf_b := h
    rw [h'] at e
    cases e
  | .inner _ _ _ _ _, .leaf, u, ⟨A, B, e, _⟩, h => by
    have h' : u = rf_b := h
    rw [h'] at e
    cases e
  | .inner j q v F X, .inner j' q' v' F' X', u, ⟨A, B, e, h1, h2⟩, ⟨A', B', e', h1', h2'⟩ => by
    rw [e] at e'
    have eA : A = A' := by injection e'
    have eB : B = B' := by injection e'
    subst eA eB
    obtain ⟨i1, i2⟩ := vx_ty_el h2 h2'
    refine ⟨by show rf_len X + 1 = rf_len X' + 1; omega, fun i C D hC hD => ?_⟩
    cases i with
    | zero =>
      have hC' : rf_n j q.1 q.2 F .leaf = C := by simpa [vx_el] using hC
      have hD' : rf_n j' q'.1 q'.2 F' .leaf = D := by simpa [vx_el] using hD
      rw [← hC', ← hD']
      exact ⟨A, h1, h1'⟩
    | succ i => exact i2 i C D hC hD
theorem vx_ty_cg {tv tc : Int → rf_T} {tm tm' : Int → Int → rf_T} {AR AR' : Nat → List Int} : ∀ {A : rf_N}, (∀ m i, vx_mt m A → tm' m i = tm m i) → (∀ j ∈ rf_idx A, AR' j = AR j) → (∀ t, (vx_ty tv tc tm AR A).1 t → (vx_ty tv tc tm' AR' A).1 t) ∧ ∀ t, (vx_ty tv tc tm AR A).2 t → (vx_ty tv tc tm' AR' A).2 t
  | .leaf, _, _ => ⟨fun _ h => h, fun _ h => h⟩
  | .inner j q v F X, hm, hj => by
    have hF : q.1 ≠ 3 → _ := fun h3 => vx_ty_cg (tv := tv) (tc := tc) (tm := tm) (tm' := tm') (AR := AR) (AR' := AR') (A := F) (fun m i h => hm m i (Or.inr (Or.inl ⟨h3, h⟩))) (fun i hi => hj i (List.mem_cons_of_mem _ (List.mem_append_left _ hi)))
    have hX := vx_ty_cg (tv := tv) (tc := tc) (tm := tm) (tm' := tm') (AR := AR) (AR' := AR') (A := X) (fun m i h => hm m i (Or.inr (Or.inr h))) (fun i hi => hj i (List.mem_cons_of_mem _ (List.mem_append_right _ hi)))
    have one : ∀ t, ((q.1 = 0 ∧ ∃ B, t = rf_a (tv q.2) B ∧ (vx_ty tv tc tm AR F).1 B) ∨ (q.1 = 1 ∧ t = rf_b ∧ (vx_ty tv tc tm AR F).2 (tc q.2)) ∨ (q.1 = 2 ∧ t = rf_b ∧ (vx_ty tv tc tm AR F).2 (tv q.2)) ∨ (q.1 = 3 ∧ t = rf_b ∧ ∀ (i : Nat) y, (AR j)[i]? = some y → tv y = tm q.2 i)) → ((q.1 = 0 ∧ ∃ B, t = rf_a (tv q.2) B ∧ (vx_ty tv tc tm' AR' F).1 B) ∨ (q.1 = 1 ∧ t = rf_b ∧ (vx_ty tv tc tm' AR' F).2 (tc q.2)) ∨ (q.1 = 2 ∧ t = rf_b ∧ (vx_ty tv tc tm' AR' F).2 (tv q.2)) ∨ (q.1 = 3 ∧ t = rf_b ∧ ∀ (i : Nat) y, (AR' j)[i]? = some y → tv y = tm' q.2 i)) := fun t h => by
      rcases h with ⟨a, B, b, c⟩ | ⟨a, b, c⟩ | ⟨a, b, c⟩ | ⟨a, b, c⟩
      · exact Or.inl ⟨a, B, b, (hF (by omega)).1 B c⟩
      · exact Or.inr (Or.inl ⟨a, b, (hF (by omega)).2 _ c⟩)
      · exact Or.inr (Or.inr (Or.inl ⟨a, b, (hF (by omega)).2 _ c⟩))
      · refine Or.inr (Or.inr (Or.inr ⟨a, b, fun i y hy => ?_⟩))
        rw [hj j List.mem_cons_self] at hy
        rw [hm q.2 i (Or.inl ⟨a, rfl⟩)]
        exact c i y hy
    exact ⟨one, fun t ⟨A, B, e, h1, h2⟩ => ⟨A, B, e, one A h1, hX.2 B h2⟩⟩
