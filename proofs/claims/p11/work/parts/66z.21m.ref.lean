/-! ===== the reference: a long form under way ===== -/
/-- the tree of a node under way: its parts, the state behind add -/
theorem rf_app_tr {lo mid hi : Int} {s t : sx_S} {a0 a1 : Int} {j : Nat} {k : Int × Int} {f tp : rf_N} (h12 : t.1 66 50 = s.1 66 50) (hR : rf_no s (.inner j k () f .leaf) a0) (hn : (rf_idx (.inner j k () f .leaf)).Nodup) (hb : ∀ i ∈ rf_idx (.inner j k () f .leaf), lo ≤ (i : Int) ∧ (i : Int) < mid) (hp : rf_no s tp a1) (hpn : (rf_idx tp).Nodup) (hpb : ∀ i ∈ rf_idx tp, mid ≤ (i : Int) ∧ (i : Int) < hi) (hmh : mid ≤ hi)
    (ht : (f = .leaf ∧ t.2.1 = sx_ua s.2.1 102 a0.toNat a1) ∨ (f ≠ .leaf ∧ t.2.1 = sx_ua s.2.1 103 (rf_last f 0) a1)) : rf_no t (.inner j k () (rf_snoc f tp) .leaf) a0 ∧ (rf_idx (.inner j k () (rf_snoc f tp) .leaf)).Nodup ∧ (∀ i ∈ rf_idx (.inner j k () (rf_snoc f tp) .leaf), lo ≤ (i : Int) ∧ (i : Int) < hi) ∧ rf_no t tp a1 := by
  obtain ⟨⟨e0, e1⟩, ⟨e2, e3⟩, hf, hx⟩ := hR
  have hja : j = a0.toNat := by omega
  have hj0 := hb j List.mem_cons_self
  obtain ⟨n1, n2⟩ := List.nodup_cons.mp hn
  have n2' : (rf_idx f).Nodup := (List.nodup_append.mp n2).1
  have n1' : j ∉ rf_idx f := fun q => n1 (List.mem_append_left _ q)
  have hfb : ∀ i ∈ rf_idx f, lo ≤ (i : Int) ∧ (i : Int) < mid := fun i hi => hb i (List.mem_cons_of_mem _ (List.mem_append_left _ hi))
  have hdis : ∀ i, i ∈ rf_idx f → i ∉ rf_idx tp := fun i a b => by
    have := (hfb i a).2
    have := (hpb i b).1
    omega
  have hjp : j ∉ rf_idx tp := fun b => by
    have := (hpb j b).1
    omega
  have hidx : ∀ i, i ∈ rf_idx (.inner j k () (rf_snoc f tp) .leaf) ↔ i = j ∨ i ∈ rf_idx f ∨ i ∈ rf_idx tp := fun i => by
    show i ∈ j :: (rf_idx (rf_snoc f tp) ++ []) ↔ _
    rw [List.append_nil, List.mem_cons, rf_idx_snoc]
  have hnod : (rf_idx (.inner j k () (rf_snoc f tp) .leaf)).Nodup := by
    show (j :: (rf_idx (rf_snoc f tp) ++ [])).Nodup
    rw [List.append_nil]
    refine List.nodup_cons.mpr ⟨fun q => ?_, rf_nodup_snoc f tp n2' hpn hdis⟩
    rcases (rf_idx_snoc f tp j).mp q with q | q
    · exact n1' q
    · exact hjp q
  refine ⟨?_, hnod, fun i hi' => ?_, ?_⟩
  · rcases ht with ⟨hl, ht⟩ | ⟨hl, ht⟩
    · subst hl
      have q100 : t.2.1 100 = s.2.1 100 := by rw [ht, sx_ua_ne (by decide)]
      have q101 : t.2.1 101 = s.2.1 101 := by rw [ht, sx_ua_ne (by decide)]
      have q103 : t.2.1 103 = s.2.1 103 := by rw [ht, sx_ua_ne (by decide)]
      have q102 : t.2.1 102 = fun i => if i = a0.toNat then a1 else s.2.1 102 i := by rw [ht, sx_ua_same]
      refine ⟨⟨e0, by rw [h12]; exact e1⟩, ⟨by rw [q100]; exact e2, by rw [q101]; exact e3⟩, ?_, ?_⟩
      · rw [q102]
        dsimp only
        rw [if_pos hja]
        refine rf_nd_mono (Int.le_of_eq h12.symm) (fun i hi => ⟨by rw [q100], by rw [q101], ?_, by rw [q103]⟩) hp
        show (if i = a0.toNat then a1 else s.2.1 102 i) = s.2.1 102 i
        rw [if_neg (fun e => hjp (by rw [hja, ← e]; exact hi))]
      · rw [q103]
        exact hx
    · have q100 : t.2.1 100 = s.2.1 100 := by rw [ht, sx_ua_ne (by decide)]
      have q101 : t.2.1 101 = s.2.1 101 := by rw [ht, sx_ua_ne (by decide)]
      have q102 : t.2.1 102 = s.2.1 102 := by rw [ht, sx_ua_ne (by decide)]
      have q103 : t.2.1 103 = fun i => if i = rf_last f 0 then a1 else s.2.1 103 i := by rw [ht, sx_ua_same]
      have hlm := rf_last_mem f 0 hl
      have hp' : rf_nd (t.2.1 100) (t.2.1 101) (t.2.1 102) (t.2.1 103) (t.1 66 50) tp a1 := by
        refine rf_nd_mono (Int.le_of_eq h12.symm) (fun i hi => ⟨by rw [q100], by rw [q101], by rw [q102], ?_⟩) hp
        rw [q103]
        dsimp only
        rw [if_neg (fun e => hdis _ hlm (by rw [← e]; exact hi))]
      refine ⟨⟨e0, by rw [h12]; exact e1⟩, ⟨by rw [q100]; exact e2, by rw [q101]; exact e3⟩, ?_, ?_⟩
      · have hf' : rf_nd (t.2.1 100) (t.2.1 101) (t.2.1 102) (s.2.1 103) (t.1 66 50) f (t.2.1 102 j) := by
          rw [q100, q101, q102, h12]
          exact hf
        refine rf_nd_snoc hp' hl n2' (d := 0) (fun i hi => ?_) ?_ hf'
        · rw [q103]
          dsimp only
          rw [if_neg hi]
        · rw [q103]
          dsimp only
          rw [if_pos rfl]
      · rw [q103]
        dsimp only
        rw [if_neg (fun e => n1' (by rw [e]; exact hlm))]
        exact hx
  · rcases (hidx i).mp hi' with q | q | q
    · rw [q]
      omega
    · have := hfb i q
      omega
    · have := hpb i q
      omega
  · rcases ht with ⟨hl, ht⟩ | ⟨hl, ht⟩
    · refine rf_nd_mono (Int.le_of_eq h12.symm) (fun i hi => ⟨by rw [ht, sx_ua_ne (by decide)], by rw [ht, sx_ua_ne (by decide)], ?_, by rw [ht, sx_ua_ne (by decide)]⟩) hp
      rw [ht, sx_ua_same]
      dsimp only
      rw [if_neg (fun e => hjp (by rw [hja, ← e]; exact hi))]
    · have hlm := rf_last_mem f 0 hl
      refine rf_nd_mono (Int.le_of_eq h12.symm) (fun i hi => ⟨by rw [ht, sx_ua_ne (by decide)], by rw [ht, sx_ua_ne (by decide)], by rw [ht, sx_ua_ne (by decide)], ?_⟩) hp
      rw [ht, sx_ua_same]
      dsimp only
      rw [if_neg (fun e => hdis _ hlm (by rw [← e]; exact hi))]

theorem rf_rp_snoc {s : sx_S} {A B : rf_T} {e : Int} (hv : rf_vt s (s.2.1 105 e.toNat) A) : ∀ {x : rf_T} {i : Int}, rf_rp s (rf_a A B) x i e → rf_rp s B x i (e + 1)
  | .leaf, i, h => by cases h.1
  | .inner n u v P Q, i, h => by
    rcases h with ⟨h1, h2⟩ | ⟨h1, h2⟩
    · injection h1 with e1 e2 e3 e4 e5
      subst h2 e4 e5
      refine Or.inr ⟨hv, ?_⟩
      cases B with
      | leaf => exact ⟨rfl, rfl⟩
      | inner n' u' v' P' Q' => exact Or.inl ⟨rfl, rfl⟩
    · exact Or.inr ⟨h1, rf_rp_snoc hv h2⟩
/-- head and chain: the chain leaves y, the head wants ye -/
def rf_J (x1 : Int) (k : Int × Int) (f0 : rf_N) (x : rf_T) (u : sx_S) (x3 x4 : Int) (y ye : rf_T) (i0 : Int) (pe vs : List Int) (ib : Int) : Prop := ∃ (C : List (Nat × Int)) (f : rf_N), rf_no u (.inner x1.toNat k () f .leaf) x1 ∧ (rf_idx (.inner x1.toNat k () f .leaf)).Nodup ∧ (∀ j ∈ rf_idx (.inner x1.toNat k () f .leaf), x1 ≤ (j : Int)) ∧ ((C = [] ∧ x3 = -1) ∨ (C ≠ [] ∧ rf_no u (rf_ch C .leaf) x3 ∧ x4 = (rf_cl C 0 : Int))) ∧ (C.map Prod.fst).Nodup ∧ (∀ j ∈ C.map Prod.fst, j ∉ rf_idx (.inner x1.toNat k () f .leaf) ∧ x1 ≤ (j : Int) ∧ (j : Int) < u.1 66 50) ∧ rf_ct u C x y ∧ (((k.1 = 1 ∨ k.1 = 2) ∧ ∃ w, rf_H u x1.toNat k.1 k.2 w ∧ (rf_gt (rf_H u) rf_P f).2 w ye) ∨ (k.1 = 3 ∧ f = .leaf ∧ rf_mp u x1.toNat k.2 ye (u.1 66 56))) ∧ (C.length + 1 + (rf_wh f).2 + 2 * rf_at y ≤ 2 * rf_at x + 1 + (rf_wh f0).2 ∧ C.length + rf_at ye ≤ rf_at x + 1) ∧ (∀ m, (rf_oc f).2 m ↔ (rf_oc f0).2 m) ∧ ((k.1 ≠ 3 → ∃ us g, C.map Prod.snd = us ++ pe ∧ f = rf_snoc f0 g ∧ (rf_lf2 g).2 us ∧ (rf_sc rf_G0 g).2 us) ∧ (∀ c ∈ C.map Prod.snd, i0 ≤ c ∧ c < ib) ∧ (C.map Prod.snd).Nodup ∧ (k.1 = 3 → rf_rv u x1 ++ pe = vs ++ C.map Prod.snd))
theorem rf_no_up {u t : sx_S} (ha : rf_ag 100 103 (u.1 66 50) u t) (hn : u.1 66 50 ≤ t.1 66 50) {n : rf_N} {i : Int} (h : rf_no u n i) : rf_no t n i :=
  rf_nd_up hn (fun j hj => ⟨ha 100 j (by omega) (by omega) hj, ha 101 j (by omega) (by omega) hj, ha 102 j (by omega) (by omega) hj, ha 103 j (by omega) (by omega) hj⟩) h
theorem rf_rv_up {u t : sx_S} {x1 : Int} (hx : rf_xu u t) (h56 : t.1 66 56 = u.1 66 56) (hlt : ((x1.toNat : Nat) : Int) < u.1 66 50) (h1 : 0 ≤ u.2.1 104 x1.toNat) : rf_rv t x1 = rf_rv u x1 := by
  unfold rf_rv
  have e := (hx.2 x1.toNat).2.2.2.1 hlt
  rw [e, h56]
  exact rf_rl_eq (fun q hq => (hx.2 _).2.2.1 (by omega))
theorem rf_rv_102 {u : sx_S} {x1 v : Int} {q : Nat} {Bs : (Nat → Nat → Int) × Nat} : rf_rv (u.1, sx_ua u.2.1 102 q v, Bs) x1 = rf_rv u x1 := by
  unfold rf_rv
  dsimp only
  rw [sx_ua_ne (show (104 : Nat) ≠ 102 by decide)]
  exact rf_rl_eq (s := u) (fun q hq => by
    dsimp only
    rw [sx_ua_ne (show (105 : Nat) ≠ 102 by decide)])
section RFJ
variable {x1 : Int} {k : Int × Int} {f0 : rf_N} {x : rf_T} {u t : sx_S} {x3 x4 : Int} {y ye A B : rf_T} {i0 ib : Int} {pe vs : List Int}
theorem rf_J_up (h : rf_J x1 k f0 x u x3 x4 y ye i0 pe vs ib) (ha : rf_ag 100 103 (u.1 66 50) u t) (hx : rf_xu u t) (h56 : t.1 66 56 = u.1 66 56) : rf_J x1 k f0 x t x3 x4 y ye i0 pe vs ib := by
  obtain ⟨C, f, a1, a2, a3, a4, a5, a6, a7, a8, a9, a10, a11⟩ := h
  have hn := (hx.2 0).1.2.2.1
  have hlt := rf_nd_lt a1 x1.toNat List.mem_cons_self
  have a1' := a1
  obtain ⟨_, _, af, _⟩ := a1'
  refine ⟨C, f, rf_no_up ha hn a1, a2, a3, a4.imp id (fun q => ⟨q.1, rf_no_up ha hn q.2.1, q.2.2⟩), a5, fun j hj => ⟨(a6 j hj).1, (a6 j hj).2.1, by have := (a6 j hj).2.2; omega⟩, rf_ct_up hx a7, ?_, a9, a10, ⟨a11.1, a11.2.1, a11.2.2.1, fun q => by
    rcases a8 with ⟨b1, _⟩ | ⟨_, _, xx, c, _⟩
    · omega
    · rw [rf_rv_up hx h56 hlt c.2.2.1]
      exact a11.2.2.2 q⟩⟩
  rcases a8 with ⟨b1, w, b2, b3⟩ | ⟨b1, b2, b3⟩
  · exact Or.inl ⟨b1, w, rf_H_up hx hlt b2, (rf_gt_up hx af).2 _ _ b3⟩
  · refine Or.inr ⟨b1, b2, ?_⟩
    rw [h56]
    exact rf_mp_up hx hlt b3
theorem rf_J_ib {ib' : Int} (h : rf_J x1 k f0 x u x3 x4 y ye i0 pe vs ib) (hb : ib ≤ ib') : rf_J x1 k f0 x u x3 x4 y ye i0 pe vs ib' := by
  obtain ⟨C, f, a1, a2, a3, a4, a5, a6, a7, a8, a9, a10, a11⟩ := h
  exact ⟨C, f, a1, a2, a3, a4, a5, a6, a7, a8, a9, a10, a11.1, fun c hc => ⟨(a11.2.1 c hc).1, by have := (a11.2.1 c hc).2; omega⟩, a11.2.2⟩
/-- a LAM more, the first one -/
theorem rf_J_lam1 {z6 z7 : Int} (h : rf_J x1 k f0 x t (-1) x4 (rf_a A B) (rf_a A B) i0 [] vs ib) (hz6 : i0 ≤ z6) (hib : ib ≤ z6) (hz : 0 ≤ z7 ∧ z7 + 1 = t.1 66 50) (hm : rf_mk t z7 0 z6) (hv : rf_vt t z6 A) (hz1 : x1 ≤ z7) (hfr : ∀ f, rf_no t (.inner x1.toNat k () f .leaf) x1 → z7.toNat ∉ rf_idx (.inner x1.toNat k () f .leaf)) : rf_J x1 k f0 x t z7 z7 B (rf_a A B) i0 [z6] vs (z6 + 1) := by
  obtain ⟨C, f, a1, a2, a3, a4, a5, a6, a7, a8, a9, a10, a11⟩ := h
  obtain ⟨m1, m2, m3, m4⟩ := hm trivial
  have hC : C = [] := by
    rcases a4 with ⟨q, _⟩ | ⟨_, q, _⟩
    · exact q
    · cases C with
      | nil => rfl
      | cons c l =>
        have := q.1.1
        omega
  subst hC
  have hl := rf_ct_len a7
  have hA := rf_at_pos A
  have e : rf_at (rf_a A B) = rf_at A + rf_at B := rfl
  refine ⟨[(z7.toNat, z6)], f, a1, a2, a3, Or.inr ⟨(fun q => by cases q), ⟨⟨by omega, by omega⟩, ⟨m1, m2⟩, m3, m4⟩, ?_⟩, by simp, ?_, rf_ct_snoc (C := []) hv a7, a8, ?_, a10, ⟨fun q1 => ?_, fun c hc => (by have ec : c = z6 := (by simpa using hc); rw [ec]; exact ⟨hz6, by omega⟩), by simp, fun q => ?_⟩⟩
  · show z7 = ((z7.toNat : Nat) : Int)
    omega
  · intro j hj
    have ej : j = z7.toNat := by simpa using hj
    subst ej
    exact ⟨hfr f a1, by omega, by omega⟩
  · simp only [List.length_nil, List.length_cons] at a9 hl ⊢
    omega
  · obtain ⟨us, g, e1, e2⟩ := a11.1 q1
    have e3 : us = [] := by simpa using e1.symm
    subst e3
    exact ⟨[], g, rfl, e2⟩
  · have := a11.2.2.2 q
    rw [List.append_nil] at this
    rw [this]
    simp
/-- a LAM more, below the others -/
theorem rf_J_lam2 {z6 z7 : Int} {Bs : (Nat → Nat → Int) × Nat} (h : rf_J x1 k f0 x t x3 x4 (rf_a A B) (rf_a A B) i0 [] vs ib) (hz6 : i0 ≤ z6) (hib : ib ≤ z6) (h3 : x3 ≠ -1) (hz : 0 ≤ z7 ∧ z7 + 1 = t.1 66 50) (hm : rf_mk t z7 0 z6) (hv : rf_vt t z6 A) (hz1 : x1 ≤ z7) (hfr : ∀ n i, rf_no t n i → i ≠ z7 → (∀ j ∈ rf_idx n, (j : Int) ≠ z7) ∨ True) (hfr1 : ∀ f, rf_no t (.inner x1.toNat k () f .leaf) x1 → z7.toNat ∉ rf_idx (.inner x1.toNat k () f .leaf)) (hfr2 : ∀ C : List (Nat × Int), rf_no t (rf_ch C .leaf) x3 → z7.toNat ∉ C.map Prod.fst) (hxu : rf_xu t (t.1, sx_ua t.2.1 102 x4.toNat z7, Bs)) : rf_J x1 k f0 x (t.1, sx_ua t.2.1 102 x4.toNat z7, Bs) x3 z7 B (rf_a A B) i0 [z6] vs (z6 + 1) := by
  obtain ⟨C, f, a1, a2, a3, a4, a5, a6, a7, a8, a9, a10, a11⟩ := h
  obtain ⟨m1, m2, m3, m4⟩ := hm trivial
  rcases a4 with ⟨_, q⟩ | ⟨c1, c2, c3⟩
  · exact absurd q h3
  have hl := rf_ct_len a7
  have hA := rf_at_pos A
  have e : rf_at (rf_a A B) = rf_at A + rf_at B := rfl
  have hlast := rf_cl_mem (d := 0) c1
  have e4 : x4.toNat = rf_cl C 0 := by omega
  have hnC := hfr2 C c2
  have q100 : (sx_ua t.2.1 102 x4.toNat z7) 100 = t.2.1 100 := sx_ua_ne (by decide)
  have q101 : (sx_ua t.2.1 102 x4.toNat z7) 101 = t.2.1 101 := sx_ua_ne (by decide)
  have q103 : (sx_ua t.2.1 102 x4.toNat z7) 103 = t.2.1 103 := sx_ua_ne (by decide)
  have q102 : (sx_ua t.2.1 102 x4.toNat z7) 102 = fun j => if j = x4.toNat then z7 else t.2.1 102 j := sx_ua_same _ _ _ _
  have hne : z7.toNat ≠ x4.toNat := fun q => hnC (by rw [q, e4]; exact hlast)
  have hnew : rf_nd (t.2.1 100) (t.2.1 101) ((sx_ua t.2.1 102 x4.toNat z7) 102) (t.2.1 103) (t.1 66 50) (rf_n z7.toNat 0 z6 .leaf .leaf) z7 := by
    refine ⟨⟨by omega, by omega⟩, ⟨m1, m2⟩, ?_, m4⟩
    rw [q102]
    show (if z7.toNat = x4.toNat then z7 else t.2.1 102 z7.toNat) = -1
    rw [if_neg hne]
    exact m3
  have hch := rf_ch_set (F' := (sx_ua t.2.1 102 x4.toNat z7) 102) hnew (d := 0) c1 a5 (fun j hj => by
    rw [q102]
    show (if j = x4.toNat then z7 else t.2.1 102 j) = _
    rw [if_neg (by rw [e4]; exact hj)]) (by
    rw [q102]
    show (if rf_cl C 0 = x4.toNat then z7 else _) = _
    rw [if_pos e4.symm]) c2
  have hhd : rf_no (t.1, sx_ua t.2.1 102 x4.toNat z7, Bs) (.inner x1.toNat k () f .leaf) x1 := by
    unfold rf_no
    dsimp only
    rw [q100, q101, q103]
    refine rf_nd_mono (Int.le_refl _) (fun j hj => ⟨rfl, rfl, ?_, rfl⟩) a1
    rw [q102]
    show (if j = x4.toNat then z7 else t.2.1 102 j) = _
    rw [if_neg (fun q => (a6 _ hlast).1 (by rw [← e4, ← q]; exact hj))]
  have a1' := a1
  obtain ⟨_, _, af, _⟩ := a1'
  have hlt := rf_nd_lt a1 x1.toNat List.mem_cons_self
  refine ⟨C ++ [(z7.toNat, z6)], f, hhd, a2, a3, Or.inr ⟨by simp, ?_, ?_⟩, ?_, ?_, rf_ct_up hxu (rf_ct_snoc hv a7), ?_, ?_, a10, ⟨fun q1 => ?_, fun c hc => ?_, ?_, fun q => ?_⟩⟩
  · unfold rf_no
    dsimp only
    rw [q100, q101, q103, rf_ch_snoc]
    exact hch
  · rw [rf_cl_snoc]
    omega
  · rw [List.map_append]
    refine List.nodup_append.mpr ⟨a5, by simp, fun a ha b hb q => ?_⟩
    have eb : b = z7.toNat := by simpa using hb
    exact hnC (by rw [← eb, ← q]; exact ha)
  · intro j hj
    rw [List.map_append, List.mem_append] at hj
    rcases hj with hj | hj
    · exact a6 j hj
    · have ej : j = z7.toNat := by simpa using hj
      subst ej
      exact ⟨hfr1 f a1, by omega, by show _ < t.1 66 50; omega⟩
  · rcases a8 with ⟨b1, w, b2, b3⟩ | ⟨b1, b2, b3⟩
    · exact Or.inl ⟨b1, w, rf_H_up hxu hlt b2, (rf_gt_up hxu af).2 _ _ b3⟩
    · exact Or.inr ⟨b1, b2, rf_mp_up hxu hlt b3⟩
  · rw [List.length_append]
    simp only [List.length_nil, List.length_cons]
    omega
  · obtain ⟨us, g, e1, e2⟩ := a11.1 q1
    rw [List.append_nil] at e1
    exact ⟨us, g, by rw [List.map_append, e1]; rfl, e2⟩
  · rw [List.map_append, List.mem_append] at hc
    rcases hc with hc | hc
    · have := a11.2.1 c hc
      omega
    · have ec : c = z6 := by simpa using hc
      rw [ec]
      exact ⟨hz6, by omega⟩
  · rw [List.map_append]
    refine List.nodup_append.mpr ⟨a11.2.2.1, by simp, fun a ha b hb e => ?_⟩
    have eb : b = z6 := by simpa using hb
    have := (a11.2.1 a ha).2
    omega
  · have := a11.2.2.2 q
    rw [List.append_nil] at this
    rw [List.map_append, ← List.append_assoc, ← this, rf_rv_102]
    rfl
end RFJ
