/-! ===== the reference: what is read as trees ===== -/
def rf_rt (s : sx_S) (t : rf_N) (i : Int) : Prop := rf_nd (s.2.1 74) (s.2.1 75) (s.2.1 80) (s.2.1 81) (s.1 66 12) t i
/-- of the nodes read none below m has changed -/
def rf_nt (m : Int) (s t : sx_S) : Prop := ∀ p j : Nat, 74 ≤ p → p ≤ 84 → (j : Int) < m → t.2.1 p j = s.2.1 p j
/-- a new node -/
def rf_nk (s : sx_S) (z k : Int) : Prop := True → s.2.1 74 z.toNat = k ∧ s.2.1 80 z.toNat = -1 ∧ s.2.1 81 z.toNat = -1 ∧ s.2.1 84 z.toNat = -1
/-- the type of a LAM has as many atoms as it says -/
def rf_D (s : sx_S) (j : Nat) : Prop := ∃ x : rf_T, rf_is s x (s.2.1 76 j) ∧ s.2.1 78 j = (rf_at x : Int)
def rf_rw (s : sx_S) : rf_N → Prop × Prop
  | .leaf => (False, True)
  | .inner j k _ f x => ((k.1 = 0 ∧ rf_D s j ∧ (rf_rw s f).1) ∨ (k.1 = 2 ∧ (rf_rw s f).2), ((k.1 = 0 ∧ rf_D s j ∧ (rf_rw s f).1) ∨ (k.1 = 2 ∧ (rf_rw s f).2)) ∧ (rf_rw s x).2)
def rf_ht : rf_N → Nat × Nat
  | .leaf => (0, 0)
  | .inner _ k _ f x => (if k.1 = 0 then 1 + (rf_ht f).1 else 1 + (rf_ht f).2, max (if k.1 = 0 then 1 + (rf_ht f).1 else 1 + (rf_ht f).2) (rf_ht x).2)
/-- nothing stands behind it -/
def rf_nx : rf_N → Prop
  | .leaf => True
  | .inner _ _ _ _ x => x = .leaf
theorem rf_nt_refl (m : Int) (s : sx_S) : rf_nt m s s := fun _ _ _ _ _ => rfl
theorem rf_nt_uf {m : Int} {s : sx_S} {F : Nat → Nat → Int} {B : (Nat → Nat → Int) × (Nat → Nat → Int) × Nat} {p k : Nat} {v : Int} (h : rf_nt m s (F, B)) : rf_nt m s (sx_uf F p k v, B) := h
theorem rf_nt_ua {m : Int} {s : sx_S} {F A : Nat → Nat → Int} {B : (Nat → Nat → Int) × Nat} {p : Nat} {k v : Int} (hk : m ≤ k) (hk0 : 0 ≤ k) (h : rf_nt m s (F, A, B)) : rf_nt m s (F, sx_ua A p k.toNat v, B) := by
  intro q j h1 h2 h3
  show sx_ua A p k.toNat v q j = _
  rw [sx_ua_if]
  split
  · rw [if_neg (by omega)]
    exact h q j h1 h2 h3
  · exact h q j h1 h2 h3
theorem rf_nt_trans {m m' : Int} {s t u : sx_S} (h2 : rf_nt m' t u) (hm : m ≤ m') (h1 : rf_nt m s t) : rf_nt m s u := fun p j a b c => (h2 p j a b (by omega)).trans (h1 p j a b c)
theorem rf_nt_F {V : List (Nat × Nat)} {m : Int} {s t u : sx_S} (hF : cx_F V t u) (hV : (List.range 11).all (fun i => cx_outb V (74 + i)) = true) (h : rf_nt m s t) : rf_nt m s u := by
  intro p j a b c
  have := List.all_eq_true.mp hV (p - 74) (List.mem_range.mpr (by omega))
  rw [show 74 + (p - 74) = p by omega] at this
  rw [(hF.same p this).2]
  exact h p j a b c
theorem rf_nk_nt {m : Int} {s t : sx_S} {z k : Int} (h : rf_nk s z k) (hn : rf_nt m s t) (h0 : 0 ≤ z) (hz : z < m) : rf_nk t z k := by
  intro q
  obtain ⟨h1, h2, h3, h4⟩ := h q
  exact ⟨(hn 74 z.toNat (by omega) (by omega) (by omega)).trans h1, (hn 80 z.toNat (by omega) (by omega) (by omega)).trans h2, (hn 81 z.toNat (by omega) (by omega) (by omega)).trans h3, (hn 84 z.toNat (by omega) (by omega) (by omega)).trans h4⟩
theorem rf_nk_mk {F A : Nat → Nat → Int} {B : (Nat → Nat → Int) × Nat} {n1 n2 n3 n4 n5 n6 : Nat} {z k a : Int} (h1 : n1 = z.toNat) (h3 : n3 = z.toNat) (h4 : n4 = z.toNat) (h6 : n6 = z.toNat) : rf_nk (F, sx_ua (sx_ua (sx_ua (sx_ua (sx_ua (sx_ua A 74 n1 k) 75 n2 a) 80 n3 (-1)) 81 n4 (-1)) 79 n5 (-1)) 84 n6 (-1), B) z k := by
  subst h1 h3 h4 h6
  intro _
  dsimp only
  refine ⟨?_, ?_, ?_, ?_⟩
  · rw [sx_ua_ne (by decide), sx_ua_ne (by decide), sx_ua_ne (by decide), sx_ua_ne (by decide), sx_ua_ne (by decide), sx_ua_same]
    exact if_pos rfl
  · rw [sx_ua_ne (by decide), sx_ua_ne (by decide), sx_ua_ne (by decide), sx_ua_same]
    exact if_pos rfl
  · rw [sx_ua_ne (by decide), sx_ua_ne (by decide), sx_ua_same]
    exact if_pos rfl
  · rw [sx_ua_same]
    exact if_pos rfl
theorem rf_rt_nt {m : Int} {s t : sx_S} {n : rf_N} {i : Int} (hn : rf_nt m s t) (h12 : s.1 66 12 ≤ t.1 66 12) (hj : ∀ j ∈ rf_idx n, (j : Int) < m) (h : rf_rt s n i) : rf_rt t n i :=
  rf_nd_mono h12 (fun j q => ⟨hn 74 j (by omega) (by omega) (hj j q), hn 75 j (by omega) (by omega) (hj j q), hn 80 j (by omega) (by omega) (hj j q), hn 81 j (by omega) (by omega) (hj j q)⟩) h
/-- the tree of a node under way: its parts, the state behind add -/
theorem rf_add_tr {lo mid hi : Int} {s t : sx_S} {a0 a1 : Int} {j : Nat} {k : Int × Int} {f tp : rf_N} (h12 : t.1 66 12 = s.1 66 12) (hR : rf_rt s (.inner j k () f .leaf) a0) (hn : (rf_idx (.inner j k () f .leaf)).Nodup) (hb : ∀ i ∈ rf_idx (.inner j k () f .leaf), lo ≤ (i : Int) ∧ (i : Int) < mid) (hp : rf_rt s tp a1) (hpn : (rf_idx tp).Nodup) (hpb : ∀ i ∈ rf_idx tp, mid ≤ (i : Int) ∧ (i : Int) < hi) (hmh : mid ≤ hi)
    (ht : (f = .leaf ∧ t.2.1 = sx_ua s.2.1 80 a0.toNat a1) ∨ (f ≠ .leaf ∧ t.2.1 = sx_ua s.2.1 81 (rf_last f 0) a1)) : rf_rt t (.inner j k () (rf_snoc f tp) .leaf) a0 ∧ (rf_idx (.inner j k () (rf_snoc f tp) .leaf)).Nodup ∧ (∀ i ∈ rf_idx (.inner j k () (rf_snoc f tp) .leaf), lo ≤ (i : Int) ∧ (i : Int) < hi) ∧ rf_rt t tp a1 := by
  obtain ⟨⟨e0, e1⟩, ⟨e2, e3⟩, hf, hx⟩ := hR
  have hja : j = a0.toNat := by omega
  have hj0 := hb j List.mem_cons_self
  obtain ⟨n1, n2⟩ := List.nodup_cons.mp hn
  have n2' : (rf_idx f).Nodup := (List.nodup_append.mp n2).1
  have n1' : j ∉ rf_idx f := fun q => n1 (List.mem_append_left _ q)
  have hfb : ∀ i ∈ rf_idx f, lo ≤ (i : Int) ∧ (i : Int) < mid := fun i hi => hb i (List.mem_cons_of_mem _ (List.mem_append_left _ hi))
  have hdis : ∀ i, i ∈ rf_idx f → i ∉ rf_idx tp := fun i a b => by
    have := (hfb i a).2
    have := (hpb i b).1
    omega
  have hjp : j ∉ rf_idx tp := fun b => by
    have := (hpb j b).1
    omega
  have hidx : ∀ i, i ∈ rf_idx (.inner j k () (rf_snoc f tp) .leaf) ↔ i = j ∨ i ∈ rf_idx f ∨ i ∈ rf_idx tp := fun i => by
    show i ∈ j :: (rf_idx (rf_snoc f tp) ++ []) ↔ _
    rw [List.append_nil, List.mem_cons, rf_idx_snoc]
  have hnod : (rf_idx (.inner j k () (rf_snoc f tp) .leaf)).Nodup := by
    show (j :: (rf_idx (rf_snoc f tp) ++ [])).Nodup
    rw [List.append_nil]
    refine List.nodup_cons.mpr ⟨fun q => ?_, rf_nodup_snoc f tp n2' hpn hdis⟩
    rcases (rf_idx_snoc f tp j).mp q with q | q
    · exact n1' q
    · exact hjp q
  refine ⟨?_, hnod, fun i hi' => ?_, ?_⟩
  · rcases ht with ⟨hl, ht⟩ | ⟨hl, ht⟩
    · subst hl
      have q74 : t.2.1 74 = s.2.1 74 := by rw [ht, sx_ua_ne (by decide)]
      have q75 : t.2.1 75 = s.2.1 75 := by rw [ht, sx_ua_ne (by decide)]
      have q81 : t.2.1 81 = s.2.1 81 := by rw [ht, sx_ua_ne (by decide)]
      have q80 : t.2.1 80 = fun i => if i = a0.toNat then a1 else s.2.1 80 i := by rw [ht, sx_ua_same]
      refine ⟨⟨e0, by rw [h12]; exact e1⟩, ⟨by rw [q74]; exact e2, by rw [q75]; exact e3⟩, ?_, ?_⟩
      · rw [q80]
        dsimp only
        rw [if_pos hja]
        refine rf_nd_mono (Int.le_of_eq h12.symm) (fun i hi => ⟨by rw [q74], by rw [q75], ?_, by rw [q81]⟩) hp
        show (if i = a0.toNat then a1 else s.2.1 80 i) = s.2.1 80 i
        rw [if_neg (fun e => hjp (by rw [hja, ← e]; exact hi))]
      · rw [q81]
        exact hx
    · have q74 : t.2.1 74 = s.2.1 74 := by rw [ht, sx_ua_ne (by decide)]
      have q75 : t.2.1 75 = s.2.1 75 := by rw [ht, sx_ua_ne (by decide)]
      have q80 : t.2.1 80 = s.2.1 80 := by rw [ht, sx_ua_ne (by decide)]
      have q81 : t.2.1 81 = fun i => if i = rf_last f 0 then a1 else s.2.1 81 i := by rw [ht, sx_ua_same]
      have hlm := rf_last_mem f 0 hl
      have hp' : rf_nd (t.2.1 74) (t.2.1 75) (t.2.1 80) (t.2.1 81) (t.1 66 12) tp a1 := by
        refine rf_nd_mono (Int.le_of_eq h12.symm) (fun i hi => ⟨by rw [q74], by rw [q75], by rw [q80], ?_⟩) hp
        rw [q81]
        dsimp only
        rw [if_neg (fun e => hdis _ hlm (by rw [← e]; exact hi))]
      refine ⟨⟨e0, by rw [h12]; exact e1⟩, ⟨by rw [q74]; exact e2, by rw [q75]; exact e3⟩, ?_, ?_⟩
      · have hf' : rf_nd (t.2.1 74) (t.2.1 75) (t.2.1 80) (s.2.1 81) (t.1 66 12) f (t.2.1 80 j) := by
          rw [q74, q75, q80, h12]
          exact hf
        refine rf_nd_snoc hp' hl n2' (d := 0) (fun i hi => ?_) ?_ hf'
        · rw [q81]
          dsimp only
          rw [if_neg hi]
        · rw [q81]
          dsimp only
          rw [if_pos rfl]
      · rw [q81]
        dsimp only
        rw [if_neg (fun e => n1' (by rw [e]; exact hlm))]
        exact hx
  · rcases (hidx i).mp hi' with q | q | q
    · rw [q]
      omega
    · have := hfb i q
      omega
    · have := hpb i q
      omega
  · rcases ht with ⟨hl, ht⟩ | ⟨hl, ht⟩
    · refine rf_nd_mono (Int.le_of_eq h12.symm) (fun i hi => ⟨by rw [ht, sx_ua_ne (by decide)], by rw [ht, sx_ua_ne (by decide)], ?_, by rw [ht, sx_ua_ne (by decide)]⟩) hp
      rw [ht, sx_ua_same]
      dsimp only
      rw [if_neg (fun e => hjp (by rw [hja, ← e]; exact hi))]
    · have hlm := rf_last_mem f 0 hl
      refine rf_nd_mono (Int.le_of_eq h12.symm) (fun i hi => ⟨by rw [ht, sx_ua_ne (by decide)], by rw [ht, sx_ua_ne (by decide)], by rw [ht, sx_ua_ne (by decide)], ?_⟩) hp
      rw [ht, sx_ua_same]
      dsimp only
      rw [if_neg (fun e => hdis _ hlm (by rw [← e]; exact hi))]
