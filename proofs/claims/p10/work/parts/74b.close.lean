/-! ===== the reference: close and longVar, with the values of what they make ===== -/
def vq_J (x1 : Int) (k : Int × Int) (f0 : rf_N) (x : rf_T) (u : sx_S) (x3 x4 : Int) (y ye : rf_T) (i0 : Int) (pe vs : List Int) (ib : Int) : Prop := ∃ (C : List (Nat × Int)) (f : rf_N), rf_no u (.inner x1.toNat k () f .leaf) x1 ∧ (rf_idx (.inner x1.toNat k () f .leaf)).Nodup ∧ (∀ j ∈ rf_idx (.inner x1.toNat k () f .leaf), x1 ≤ (j : Int)) ∧ ((C = [] ∧ x3 = -1) ∨ (C ≠ [] ∧ rf_no u (rf_ch C .leaf) x3 ∧ x4 = (rf_cl C 0 : Int))) ∧ (C.map Prod.fst).Nodup ∧ (∀ j ∈ C.map Prod.fst, j ∉ rf_idx (.inner x1.toNat k () f .leaf) ∧ x1 ≤ (j : Int) ∧ (j : Int) < u.1 66 50) ∧ rf_ct u C x y ∧ (((k.1 = 1 ∨ k.1 = 2) ∧ ∃ w, rf_H u x1.toNat k.1 k.2 w ∧ (rf_gt (rf_H u) rf_P f).2 w ye) ∨ (k.1 = 3 ∧ f = .leaf ∧ rf_mp u x1.toNat k.2 ye (u.1 66 56))) ∧ (C.length + 1 + (rf_wh f).2 + 2 * rf_at y ≤ 2 * rf_at x + 1 + (rf_wh f0).2 ∧ C.length + rf_at ye ≤ rf_at x + 1) ∧ (∀ m, (rf_oc f).2 m ↔ (rf_oc f0).2 m) ∧ ((k.1 ≠ 3 → ∃ us g, C.map Prod.snd = us ++ pe ∧ f = rf_snoc f0 g ∧ (rf_lf2 g).2 us ∧ (rf_sc rf_G0 g).2 us ∧ ∃ As, rf_args x = As ++ rf_args ye ∧ vq_g As us g) ∧ (∀ c ∈ C.map Prod.snd, i0 ≤ c ∧ c < ib) ∧ (C.map Prod.snd).Nodup ∧ (k.1 = 3 → rf_rv u x1 ++ pe = vs ++ C.map Prod.snd))
section VQJ
variable {x1 : Int} {k : Int × Int} {f0 : rf_N} {x : rf_T} {u t : sx_S} {x3 x4 : Int} {y ye A B : rf_T} {i0 ib : Int} {pe vs : List Int}
theorem vq_J_up (h : vq_J x1 k f0 x u x3 x4 y ye i0 pe vs ib) (ha : rf_ag 100 103 (u.1 66 50) u t) (hx : rf_xu u t) (h56 : t.1 66 56 = u.1 66 56) : vq_J x1 k f0 x t x3 x4 y ye i0 pe vs ib := by
  obtain ⟨C, f, a1, a2, a3, a4, a5, a6, a7, a8, a9, a10, a11⟩ := h
  have hn := (hx.2 0).1.2.2.1
  have hlt := rf_nd_lt a1 x1.toNat List.mem_cons_self
  have a1' := a1
  obtain ⟨_, _, af, _⟩ := a1'
  refine ⟨C, f, rf_no_up ha hn a1, a2, a3, a4.imp id (fun q => ⟨q.1, rf_no_up ha hn q.2.1, q.2.2⟩), a5, fun j hj => ⟨(a6 j hj).1, (a6 j hj).2.1, by have := (a6 j hj).2.2; omega⟩, rf_ct_up hx a7, ?_, a9, a10, ⟨a11.1, a11.2.1, a11.2.2.1, fun q => by
    rcases a8 with ⟨b1, _⟩ | ⟨_, _, xx, c, _⟩
    · omega
    · rw [rf_rv_up hx h56 hlt c.2.2.1]
      exact a11.2.2.2 q⟩⟩
  rcases a8 with ⟨b1, w, b2, b3⟩ | ⟨b1, b2, b3⟩
  · exact Or.inl ⟨b1, w, rf_H_up hx hlt b2, (rf_gt_up hx af).2 _ _ b3⟩
  · refine Or.inr ⟨b1, b2, ?_⟩
    rw [h56]
    exact rf_mp_up hx hlt b3
theorem vq_J_ib {ib' : Int} (h : vq_J x1 k f0 x u x3 x4 y ye i0 pe vs ib) (hb : ib ≤ ib') : vq_J x1 k f0 x u x3 x4 y ye i0 pe vs ib' := by
  obtain ⟨C, f, a1, a2, a3, a4, a5, a6, a7, a8, a9, a10, a11⟩ := h
  exact ⟨C, f, a1, a2, a3, a4, a5, a6, a7, a8, a9, a10, a11.1, fun c hc => ⟨(a11.2.1 c hc).1, by have := (a11.2.1 c hc).2; omega⟩, a11.2.2⟩
theorem vq_J_lam1 {z6 z7 : Int} (h : vq_J x1 k f0 x t (-1) x4 (rf_a A B) (rf_a A B) i0 [] vs ib) (hz6 : i0 ≤ z6) (hib : ib ≤ z6) (hz : 0 ≤ z7 ∧ z7 + 1 = t.1 66 50) (hm : rf_mk t z7 0 z6) (hv : rf_vt t z6 A) (hz1 : x1 ≤ z7) (hfr : ∀ f, rf_no t (.inner x1.toNat k () f .leaf) x1 → z7.toNat ∉ rf_idx (.inner x1.toNat k () f .leaf)) : vq_J x1 k f0 x t z7 z7 B (rf_a A B) i0 [z6] vs (z6 + 1) := by
  obtain ⟨C, f, a1, a2, a3, a4, a5, a6, a7, a8, a9, a10, a11⟩ := h
  obtain ⟨m1, m2, m3, m4⟩ := hm trivial
  have hC : C = [] := by
    rcases a4 with ⟨q, _⟩ | ⟨_, q, _⟩
    · exact q
    · cases C with
      | nil => rfl
      | cons c l =>
        have := q.1.1
        omega
  subst hC
  have hl := rf_ct_len a7
  have hA := rf_at_pos A
  have e : rf_at (rf_a A B) = rf_at A + rf_at B := rfl
  refine ⟨[(z7.toNat, z6)], f, a1, a2, a3, Or.inr ⟨(fun q => by cases q), ⟨⟨by omega, by omega⟩, ⟨m1, m2⟩, m3, m4⟩, ?_⟩, by simp, ?_, rf_ct_snoc (C := []) hv a7, a8, ?_, a10, ⟨fun q1 => ?_, fun c hc => (by have ec : c = z6 := (by simpa using hc); rw [ec]; exact ⟨hz6, by omega⟩), by simp, fun q => ?_⟩⟩
  · show z7 = ((z7.toNat : Nat) : Int)
    omega
  · intro j hj
    have ej : j = z7.toNat := by simpa using hj
    subst ej
    exact ⟨hfr f a1, by omega, by omega⟩
  · simp only [List.length_nil, List.length_cons] at a9 hl ⊢
    omega
  · obtain ⟨us, g, e1, e2⟩ := a11.1 q1
    have e3 : us = [] := by simpa using e1.symm
    subst e3
    exact ⟨[], g, rfl, e2⟩
  · have := a11.2.2.2 q
    rw [List.append_nil] at this
    rw [this]
    simp
theorem vq_J_lam2 {z6 z7 : Int} {Bs : (Nat → Nat → Int) × Nat} (h : vq_J x1 k f0 x t x3 x4 (rf_a A B) (rf_a A B) i0 [] vs ib) (hz6 : i0 ≤ z6) (hib : ib ≤ z6) (h3 : x3 ≠ -1) (hz : 0 ≤ z7 ∧ z7 + 1 = t.1 66 50) (hm : rf_mk t z7 0 z6) (hv : rf_vt t z6 A) (hz1 : x1 ≤ z7) (hfr : ∀ n i, rf_no t n i → i ≠ z7 → (∀ j ∈ rf_idx n, (j : Int) ≠ z7) ∨ True) (hfr1 : ∀ f, rf_no t (.inner x1.toNat k () f .leaf) x1 → z7.toNat ∉ rf_idx (.inner x1.toNat k () f .leaf)) (hfr2 : ∀ C : List (Nat × Int), rf_no t (rf_ch C .leaf) x3 → z7.toNat ∉ C.map Prod.fst) (hxu : rf_xu t (t.1, sx_ua t.2.1 102 x4.toNat z7, Bs)) : vq_J x1 k f0 x (t.1, sx_ua t.2.1 102 x4.toNat z7, Bs) x3 z7 B (rf_a A B) i0 [z6] vs (z6 + 1) := by
  obtain ⟨C, f, a1, a2, a3, a4, a5, a6, a7, a8, a9, a10, a11⟩ := h
  obtain ⟨m1, m2, m3, m4⟩ := hm trivial
  rcases a4 with ⟨_, q⟩ | ⟨c1, c2, c3⟩
  · exact absurd q h3
  have hl := rf_ct_len a7
  have hA := rf_at_pos A
  have e : rf_at (rf_a A B) = rf_at A + rf_at B := rfl
  have hlast := rf_cl_mem (d := 0) c1
  have e4 : x4.toNat = rf_cl C 0 := by omega
  have hnC := hfr2 C c2
  have q100 : (sx_ua t.2.1 102 x4.toNat z7) 100 = t.2.1 100 := sx_ua_ne (by decide)
  have q101 : (sx_ua t.2.1 102 x4.toNat z7) 101 = t.2.1 101 := sx_ua_ne (by decide)
  have q103 : (sx_ua t.2.1 102 x4.toNat z7) 103 = t.2.1 103 := sx_ua_ne (by decide)
  have q102 : (sx_ua t.2.1 102 x4.toNat z7) 102 = fun j => if j = x4.toNat then z7 else t.2.1 102 j := sx_ua_same _ _ _ _
  have hne : z7.toNat ≠ x4.toNat := fun q => hnC (by rw [q, e4]; exact hlast)
  have hnew : rf_nd (t.2.1 100) (t.2.1 101) ((sx_ua t.2.1 102 x4.toNat z7) 102) (t.2.1 103) (t.1 66 50) (rf_n z7.toNat 0 z6 .leaf .leaf) z7 := by
    refine ⟨⟨by omega, by omega⟩, ⟨m1, m2⟩, ?_, m4⟩
    rw [q102]
    show (if z7.toNat = x4.toNat then z7 else t.2.1 102 z7.toNat) = -1
    rw [if_neg hne]
    exact m3
  have hch := rf_ch_set (F' := (sx_ua t.2.1 102 x4.toNat z7) 102) hnew (d := 0) c1 a5 (fun j hj => by
    rw [q102]
    show (if j = x4.toNat then z7 else t.2.1 102 j) = _
    rw [if_neg (by rw [e4]; exact hj)]) (by
    rw [q102]
    show (if rf_cl C 0 = x4.toNat then z7 else _) = _
    rw [if_pos e4.symm]) c2
  have hhd : rf_no (t.1, sx_ua t.2.1 102 x4.toNat z7, Bs) (.inner x1.toNat k () f .leaf) x1 := by
    unfold rf_no
    dsimp only
    rw [q100, q101, q103]
    refine rf_nd_mono (Int.le_refl _) (fun j hj => ⟨rfl, rfl, ?_, rfl⟩) a1
    rw [q102]
    show (if j = x4.toNat then z7 else t.2.1 102 j) = _
    rw [if_neg (fun q => (a6 _ hlast).1 (by rw [← e4, ← q]; exact hj))]
  have a1' := a1
  obtain ⟨_, _, af, _⟩ := a1'
  have hlt := rf_nd_lt a1 x1.toNat List.mem_cons_self
  refine ⟨C ++ [(z7.toNat, z6)], f, hhd, a2, a3, Or.inr ⟨by simp, ?_, ?_⟩, ?_, ?_, rf_ct_up hxu (rf_ct_snoc hv a7), ?_, ?_, a10, ⟨fun q1 => ?_, fun c hc => ?_, ?_, fun q => ?_⟩⟩
  · unfold rf_no
    dsimp only
    rw [q100, q101, q103, rf_ch_snoc]
    exact hch
  · rw [rf_cl_snoc]
    omega
  · rw [List.map_append]
    refine List.nodup_append.mpr ⟨a5, by simp, fun a ha b hb q => ?_⟩
    have eb : b = z7.toNat := by simpa using hb
    exact hnC (by rw [← eb, ← q]; exact ha)
  · intro j hj
    rw [List.map_append, List.mem_append] at hj
    rcases hj with hj | hj
    · exact a6 j hj
    · have ej : j = z7.toNat := by simpa using hj
      subst ej
      exact ⟨hfr1 f a1, by omega, by show _ < t.1 66 50; omega⟩
  · rcases a8 with ⟨b1, w, b2, b3⟩ | ⟨b1, b2, b3⟩
    · exact Or.inl ⟨b1, w, rf_H_up hxu hlt b2, (rf_gt_up hxu af).2 _ _ b3⟩
    · exact Or.inr ⟨b1, b2, rf_mp_up hxu hlt b3⟩
  · rw [List.length_append]
    simp only [List.length_nil, List.length_cons]
    omega
  · obtain ⟨us, g, e1, e2⟩ := a11.1 q1
    rw [List.append_nil] at e1
    exact ⟨us, g, by rw [List.map_append, e1]; rfl, e2⟩
  · rw [List.map_append, List.mem_append] at hc
    rcases hc with hc | hc
    · have := a11.2.1 c hc
      omega
    · have ec : c = z6 := by simpa using hc
      rw [ec]
      exact ⟨hz6, by omega⟩
  · rw [List.map_append]
    refine List.nodup_append.mpr ⟨a11.2.2.1, by simp, fun a ha b hb e => ?_⟩
    have eb : b = z6 := by simpa using hb
    have := (a11.2.1 a ha).2
    omega
  · have := a11.2.2.2 q
    rw [List.append_nil] at this
    rw [List.map_append, ← List.append_assoc, ← this, rf_rv_102]
    rfl
theorem vq_J_met {Bs : (Nat → Nat → Int) × Nat} {w n x6 : Int} (h : vq_J x1 k f0 x u x3 x4 B (rf_a A B) i0 [x6] vs ib) (hk : k.1 = 3) (hw : w = u.1 66 56 + 1) (hn : n = u.1 66 56) (h0 : 0 ≤ n) (hv : rf_vt u x6 A) : vq_J x1 k f0 x (sx_uf u.1 66 56 w, sx_ua u.2.1 105 n.toNat x6, Bs) x3 x4 B B i0 [] vs ib := by
  have hx := rf_xu_var (B := Bs) (v := x6) hw hn h0
  obtain ⟨C, f, a1, a2, a3, a4, a5, a6, a7, a8, a9, a10, a11⟩ := h
  have hlt := rf_nd_lt a1 x1.toNat List.mem_cons_self
  have e50 : sx_uf u.1 66 56 w 66 50 = u.1 66 50 := by
    rw [sx_uf_if]
    exact if_neg (fun c => by cases c.2)
  have e56 : sx_uf u.1 66 56 w 66 56 = w := by
    rw [sx_uf_if]
    exact if_pos ⟨rfl, rfl⟩
  have a : ∀ q, q ≠ 105 → sx_ua u.2.1 105 n.toNat x6 q = u.2.1 q := fun q hq => sx_ua_ne hq
  have hno : ∀ m i, rf_no u m i → rf_no (sx_uf u.1 66 56 w, sx_ua u.2.1 105 n.toNat x6, Bs) m i := fun m i q => by
    unfold rf_no at q ⊢
    dsimp only
    rw [e50, a 100 (by decide), a 101 (by decide), a 102 (by decide), a 103 (by decide)]
    exact q
  have hA := rf_at_pos A
  have e : rf_at (rf_a A B) = rf_at A + rf_at B := rfl
  rcases a8 with ⟨b1, _⟩ | ⟨b1, b2, xx, ⟨c1, c2, c3, c4⟩, c5, c6⟩
  · omega
  have hrow : rf_rv (sx_uf u.1 66 56 w, sx_ua u.2.1 105 n.toNat x6, Bs) x1 ++ [] = vs ++ C.map Prod.snd := by
    obtain ⟨_, g2⟩ := rf_rp_up (rf_xu_refl u) c3 c4 c6
    rw [List.append_nil, ← a11.2.2.2 hk]
    unfold rf_rv
    dsimp only
    rw [a 104 (by decide), e56, show (w - u.2.1 104 x1.toNat).toNat = (u.1 66 56 - u.2.1 104 x1.toNat).toNat + 1 by omega]
    rw [rf_rl_s, rf_rl_eq (s := u) (fun q hq => by
      dsimp only
      rw [sx_ua_same]
      dsimp only
      rw [if_neg (by omega)])]
    dsimp only
    rw [sx_ua_same]
    dsimp only
    rw [if_pos (by omega)]
  refine ⟨C, f, hno _ _ a1, a2, a3, a4.imp id (fun q => ⟨q.1, hno _ _ q.2.1, q.2.2⟩), a5, fun j hj => ⟨(a6 j hj).1, (a6 j hj).2.1, by dsimp only; rw [e50]; exact (a6 j hj).2.2⟩, rf_ct_up hx a7, Or.inr ⟨hk, b2, ?_⟩, by omega, a10, ⟨fun q => absurd hk q, a11.2.1, a11.2.2.1, fun _ => hrow⟩⟩
  obtain ⟨g1, g2⟩ := rf_rp_up hx c3 c4 c6
  refine ⟨xx, ⟨?_, c2, ?_, ?_⟩, ?_, ?_⟩
  · have := (hx.2 0).1.2.2.2.2
    omega
  · dsimp only
    rw [a 104 (by decide)]
    exact c3
  · dsimp only
    exact Int.le_refl _
  · dsimp only
    rw [a 123 (by decide)]
    exact rf_is_up c5 hx.1
  · dsimp only
    rw [a 104 (by decide), e56]
    have hh := rf_rp_snoc (A := A) (B := B) (by
      dsimp only
      rw [sx_ua_same]
      dsimp only
      rw [if_pos (by rw [hn])]
      exact rf_vt_up hx hv) g1
    rw [← hw] at hh
    exact hh
theorem vq_J_app {n : rf_N} {p : Int} {t' : sx_S} {x6 : Int} (h : vq_J x1 k f0 x u x3 x4 B (rf_a A B) i0 [x6] vs ib) (hlf : rf_lf n x6) (hvn : vq_n A x6 n) (hsc : (rf_sc rf_G0 n).1 [x6]) (h3 : x3 ≠ -1) (hk : k.1 ≠ 3) (ha : rf_ag 100 103 (u.1 66 50) u t) (hx : rf_xu u t) (hn : rf_no t n p) (hnd : (rf_idx n).Nodup) (hlo : ∀ j ∈ rf_idx n, u.1 66 50 ≤ (j : Int)) (hnx : rf_nx n) (hty : (rf_gt (rf_H t) rf_P n).1 A) (hwh : (rf_wh n).1 + 1 ≤ 2 * rf_at A) (hoc : ∀ m, ¬ (rf_oc n).1 m) (h1 : t'.1 = t.1) (ht : ∀ f, rf_no t (.inner x1.toNat k () f .leaf) x1 → (f = .leaf ∧ t'.2.1 = sx_ua t.2.1 102 x1.toNat p) ∨ (f ≠ .leaf ∧ t'.2.1 = sx_ua t.2.1 103 (rf_last f 0) p)) : vq_J x1 k f0 x t' x3 x4 B B i0 [] vs ib := by
  obtain ⟨C, f, a1, a2, a3, a4, a5, a6, a7, a8, a9, a10, a11⟩ := h
  have hnn := (hx.2 0).1.2.2.1
  have b1 := rf_no_up ha hnn a1
  have hlt := rf_nd_lt a1
  have hC := ht f b1
  obtain ⟨d1, d2, d3, d4⟩ := rf_app_tr (lo := x1) (mid := u.1 66 50) (hi := t.1 66 50) (by rw [h1]) b1 a2 (fun j hj => ⟨a3 j hj, hlt j hj⟩) hn hnd (fun j hj => ⟨hlo j hj, rf_nd_lt hn j hj⟩) hnn hC
  have hxu : rf_xu t t' := by
    refine rf_xu_arr h1 (fun q hq => ?_)
    rcases hC with ⟨_, e⟩ | ⟨_, e⟩
    · rw [e]
      exact sx_ua_ne (by rcases hq with rfl | rfl | rfl | rfl | rfl | rfl | rfl <;> decide)
    · rw [e]
      exact sx_ua_ne (by rcases hq with rfl | rfl | rfl | rfl | rfl | rfl | rfl <;> decide)
  have hch : ∀ i, rf_no u (rf_ch C .leaf) i → rf_no t' (rf_ch C .leaf) i := fun i q => by
    have q2 := rf_no_up ha hnn q
    refine rf_nd_mono (Int.le_of_eq (by rw [h1])) (fun j hj => ?_) q2
    have hjC : j ∈ C.map Prod.fst := (rf_ch_idx.mp hj).elim id (fun z => absurd z List.not_mem_nil)
    have hjh := (a6 j hjC).1
    rcases hC with ⟨_, e⟩ | ⟨hf, e⟩
    · refine ⟨by rw [e, sx_ua_ne (by decide)], by rw [e, sx_ua_ne (by decide)], ?_, by rw [e, sx_ua_ne (by decide)]⟩
      rw [e, sx_ua_same]
      dsimp only
      rw [if_neg (fun z => hjh (by rw [z]; exact List.mem_cons_self))]
    · refine ⟨by rw [e, sx_ua_ne (by decide)], by rw [e, sx_ua_ne (by decide)], by rw [e, sx_ua_ne (by decide)], ?_⟩
      rw [e, sx_ua_same]
      dsimp only
      rw [if_neg (fun z => hjh (by rw [z]; exact List.mem_cons_of_mem _ (List.mem_append_left _ (rf_last_mem f 0 hf))))]
  have hxt := rf_xu_trans hxu hx
  have hlx := hlt x1.toNat List.mem_cons_self
  have a1' := a1
  obtain ⟨_, _, af, _⟩ := a1'
  have hA := rf_at_pos A
  have e : rf_at (rf_a A B) = rf_at A + rf_at B := rfl
  have hl := rf_ct_len a7
  have hC1 : 1 ≤ C.length := by
    rcases a4 with ⟨_, z⟩ | ⟨z, _⟩
    · exact absurd z h3
    · cases C with
      | nil => exact absurd rfl z
      | cons c l => exact Nat.succ_pos _
  rcases a8 with ⟨b1, w, b2, b3⟩ | ⟨b1, _⟩
  · refine ⟨C, rf_snoc f n, d1, d2, fun j hj => (d3 j hj).1, a4.imp id (fun q => ⟨q.1, hch _ q.2.1, q.2.2⟩), a5, fun j hj => ⟨fun z => ?_, (a6 j hj).2.1, ?_⟩, rf_ct_up hxt a7, Or.inl ⟨b1, w, rf_H_up hxt hlx b2, rf_gt_snoc ((rf_gt_up hxt af).2 _ _ b3) ?_⟩, ?_, fun m => ?_, ⟨fun q1 => by obtain ⟨us, g, e1, e2, e3, e4, As, e5, e6⟩ := a11.1 q1; exact ⟨us ++ [x6], rf_snoc g n, by rw [List.append_nil]; exact e1, by rw [e2, rf_snoc_assoc], rf_lf2_snoc hnx hlf e3, rf_sc_snoc ((rf_sc_mono (fun _ _ _ _ _ _ q => q.elim)).2 _ _ (fun v hv => List.mem_append_left _ hv) e4) (rf_sc_12 hnx ((rf_sc_mono (fun _ _ _ _ _ _ q => q.elim)).1 _ _ (fun v hv => List.mem_append_right _ hv) hsc)), As ++ [A], by rw [e5, List.append_assoc]; rfl, vq_g_s e6 hvn⟩, a11.2.1, a11.2.2.1, fun q => absurd q hk⟩⟩
    · have z2 : j = x1.toNat ∨ j ∈ rf_idx f ∨ j ∈ rf_idx n := by
        have z3 : j ∈ x1.toNat :: (rf_idx (rf_snoc f n) ++ []) := z
        rw [List.append_nil, List.mem_cons, rf_idx_snoc] at z3
        exact z3
      rcases z2 with z | z | z
      · exact (a6 j hj).1 (by rw [z]; exact List.mem_cons_self)
      · exact (a6 j hj).1 (List.mem_cons_of_mem _ (List.mem_append_left _ z))
      · have := hlo j z
        have := (a6 j hj).2.2
        omega
    · rw [h1]
      have := (a6 j hj).2.2
      omega
    · cases n with
      | leaf => exact hty.elim
      | inner nj nk nu nf nn =>
        have en : nn = .leaf := hnx
        subst en
        exact ⟨A, B, rfl, (rf_gt_up hxu hn).1 _ hty, rfl⟩
    · rw [rf_wh_snoc]
      have hw2 : (rf_wh n).2 = (rf_wh n).1 := by
        cases n with
        | leaf => exact hty.elim
        | inner nj nk nu nf nn =>
          have en : nn = .leaf := hnx
          subst en
          exact Nat.max_zero _
      rw [hw2]
      omega
    · rw [rf_oc_snoc, ← a10 m]
      constructor
      · rintro (z | z)
        · exact z
        · cases n with
          | leaf => exact z.elim
          | inner nj nk nu nf nn =>
            have en : nn = .leaf := hnx
            subst en
            rcases z with z | z
            · exact absurd z (hoc m)
            · exact z.elim
      · exact Or.inl
  · exact absurd b1 hk
end VQJ
theorem vq_ct_len {s : sx_S} : ∀ {C : List (Nat × Int)} {x y : rf_T}, rf_ct s C x y → (rf_args x).length = C.length + (rf_args y).length
  | [], x, y, g => by
    have e : x = y := g
    rw [e, List.length_nil]
    omega
  | c :: l, x, y, ⟨A, B, g1, g2, g3⟩ => by
    have ih := vq_ct_len g3
    rw [g1]
    show (rf_args B).length + 1 = l.length + 1 + (rf_args y).length
    omega
def vq_PC (i0 : Int) (k : Int × Int) (f0 : rf_N) (x : rf_T) (vs : List Int) (x1 : Int) (t : sx_S) (n : rf_N) : Prop := rf_PC i0 k f0 x vs x1 t n ∧ (k.1 ≠ 3 → vq_z x k.1 k.2 f0 i0 n) ∧ (k.1 = 3 → vq_y x k.2 vs i0 x1.toNat (rf_rv t x1) n)
section VQJ3
variable {x1 : Int} {k : Int × Int} {f0 : rf_N} {x : rf_T} {u t : sx_S} {x3 x4 : Int} {i0 ib : Int} {vs : List Int}
theorem vq_J_v {f : rf_N} {C : List (Nat × Int)} (a7 : rf_ct u C x .leaf) (a8 : ((k.1 = 1 ∨ k.1 = 2) ∧ ∃ w, rf_H u x1.toNat k.1 k.2 w ∧ (rf_gt (rf_H u) rf_P f).2 w .leaf) ∨ (k.1 = 3 ∧ f = .leaf ∧ rf_mp u x1.toNat k.2 .leaf (u.1 66 56))) (a11 : (k.1 ≠ 3 → ∃ us g, C.map Prod.snd = us ++ [] ∧ f = rf_snoc f0 g ∧ (rf_lf2 g).2 us ∧ (rf_sc rf_G0 g).2 us ∧ ∃ As, rf_args x = As ++ rf_args .leaf ∧ vq_g As us g) ∧ (∀ c ∈ C.map Prod.snd, i0 ≤ c ∧ c < ib) ∧ (C.map Prod.snd).Nodup ∧ (k.1 = 3 → rf_rv u x1 ++ [] = vs ++ C.map Prod.snd)) : (k.1 ≠ 3 → vq_z x k.1 k.2 f0 i0 (rf_ch C (.inner x1.toNat k () f .leaf))) ∧ (k.1 = 3 → vq_y x k.2 vs i0 x1.toNat (rf_rv u x1) (rf_ch C (.inner x1.toNat k () f .leaf))) := by
  constructor
  · intro h3
    obtain ⟨us, g, e1, e2, _, _, As, e5, e6⟩ := a11.1 h3
    have h0 : k.1 ≠ 0 := by
      rcases a8 with ⟨q, _⟩ | ⟨q, _⟩
      · omega
      · omega
    have e7 : As = rf_args x := by
      rw [e5]
      exact (List.append_nil _).symm
    rw [List.append_nil] at e1
    rw [e7, ← e1] at e6
    rw [e2]
    exact vq_z_mk (i := x1.toNat) (k := k.1) (h := k.2) h0 h3 e6 a11.2.2.1 (fun c hc => (a11.2.1 c hc).1)
  · intro h3
    have e1 := a11.2.2.2 h3
    rw [List.append_nil] at e1
    obtain ⟨k1, k2⟩ := k
    have h3' : k1 = 3 := h3
    subst h3'
    refine vq_y_mk (i := x1.toNat) ?_ a11.2.2.1 (fun c hc => (a11.2.1 c hc).1) e1 (by
      rcases a8 with ⟨q, _⟩ | ⟨_, q, _⟩
      · dsimp only at q
        omega
      · exact q)
    have := vq_ct_len a7
    rw [this]
    rfl
theorem vq_J_end1 (h : vq_J x1 k f0 x u (-1) x4 .leaf .leaf i0 [] vs ib) : rf_made x1 x u x1 (vq_PC i0 k f0 x vs x1 u) := by
  obtain ⟨C, f, a1, a2, a3, a4, a5, a6, a7, a8, a9, a10, a11⟩ := h
  have hC : C = [] := by
    rcases a4 with ⟨q, _⟩ | ⟨_, q, _⟩
    · exact q
    · cases C with
      | nil => rfl
      | cons c l =>
        have := q.1.1
        omega
  subst hC
  have ex : x = .leaf := a7
  obtain ⟨h1, ⟨h2, h2'⟩, h3⟩ := rf_J_head a8 a10
  have e1 : rf_at (.leaf : rf_T) = 1 := rfl
  simp only [List.length_nil] at a9
  have h4 := rf_J_end (C := []) a8 ⟨fun q => (by obtain ⟨us, g, e1, e2, e3, e4, _⟩ := a11.1 q; exact ⟨us, g, e1, e2, e3, e4⟩), a11.2⟩
  have h5 := vq_J_v (C := []) a7 a8 a11
  refine ⟨_, a1, a2, a3, rfl, by rw [ex]; exact h1, ⟨h4, ⟨fun q => ?_, fun q => ?_⟩, h3⟩, h5⟩
  · rw [h2 q]
    omega
  · rw [h2' q]
    have := rf_at_pos x
    omega
theorem vq_J_end2 {Bs : (Nat → Nat → Int) × Nat} (h : vq_J x1 k f0 x u x3 x4 .leaf .leaf i0 [] vs ib) (h3 : x3 ≠ -1) (h1' : 0 ≤ x1) : rf_made x1 x (u.1, sx_ua u.2.1 102 x4.toNat x1, Bs) x3 (vq_PC i0 k f0 x vs x1 (u.1, sx_ua u.2.1 102 x4.toNat x1, Bs)) := by
  obtain ⟨C, f, a1, a2, a3, a4, a5, a6, a7, a8, a9, a10, a11⟩ := h
  rcases a4 with ⟨_, q⟩ | ⟨c1, c2, c3⟩
  · exact absurd q h3
  obtain ⟨h1, ⟨h2, h2'⟩, h4⟩ := rf_J_head a8 a10
  have e1 : rf_at (.leaf : rf_T) = 1 := rfl
  have hl := rf_ct_len a7
  have hlast := rf_cl_mem (d := 0) c1
  have e4 : x4.toNat = rf_cl C 0 := by omega
  have q100 : (sx_ua u.2.1 102 x4.toNat x1) 100 = u.2.1 100 := sx_ua_ne (by decide)
  have q101 : (sx_ua u.2.1 102 x4.toNat x1) 101 = u.2.1 101 := sx_ua_ne (by decide)
  have q103 : (sx_ua u.2.1 102 x4.toNat x1) 103 = u.2.1 103 := sx_ua_ne (by decide)
  have q102 : (sx_ua u.2.1 102 x4.toNat x1) 102 = fun j => if j = x4.toNat then x1 else u.2.1 102 j := sx_ua_same _ _ _ _
  have hxu : rf_xu u (u.1, sx_ua u.2.1 102 x4.toNat x1, Bs) := rf_xu_arr rfl (fun q hq => sx_ua_ne (by rcases hq with rfl | rfl | rfl | rfl | rfl | rfl | rfl <;> decide))
  have hhd : rf_nd (u.2.1 100) (u.2.1 101) ((sx_ua u.2.1 102 x4.toNat x1) 102) (u.2.1 103) (u.1 66 50) (.inner x1.toNat k () f .leaf) x1 := by
    refine rf_nd_mono (Int.le_refl _) (fun j hj => ⟨rfl, rfl, ?_, rfl⟩) a1
    rw [q102]
    show (if j = x4.toNat then x1 else u.2.1 102 j) = _
    rw [if_neg (fun q => (a6 _ hlast).1 (by rw [← e4, ← q]; exact hj))]
  have hch := rf_ch_set (F' := (sx_ua u.2.1 102 x4.toNat x1) 102) hhd (d := 0) c1 a5 (fun j hj => by
    rw [q102]
    show (if j = x4.toNat then x1 else u.2.1 102 j) = _
    rw [if_neg (by rw [e4]; exact hj)]) (by
    rw [q102]
    show (if rf_cl C 0 = x4.toNat then x1 else _) = _
    rw [if_pos e4.symm]) c2
  have hno : rf_no (u.1, sx_ua u.2.1 102 x4.toNat x1, Bs) (rf_ch C (.inner x1.toNat k () f .leaf)) x3 := by
    unfold rf_no
    dsimp only
    rw [q100, q101, q103]
    exact hch
  refine ⟨rf_ch C (.inner x1.toNat k () f .leaf), hno, rf_ch_nodup a2 a5 (fun j hj => (a6 j hj).1), fun j hj => ?_, ?_, (rf_ct_gt (rf_ct_up hxu a7) ((rf_gt_up hxu a1).1 _ h1)), ⟨?_, ⟨fun q => ?_, fun q => ?_⟩, fun m => ?_⟩, by rw [rf_rv_102]; exact vq_J_v a7 a8 a11⟩
  · rcases rf_ch_idx.mp hj with q | q
    · exact (a6 j q).2.1
    · exact a3 j q
  · cases C with
    | nil => exact absurd rfl c1
    | cons c l => rfl
  · have hlt := rf_nd_lt a1 x1.toNat List.mem_cons_self
    have h := rf_J_end (i0 := i0) (ib := ib) (vs := vs) (f0 := f0) (C := C) a8 ⟨fun q => (by obtain ⟨us, g, e1, e2, e3, e4, _⟩ := a11.1 q; exact ⟨us, g, e1, e2, e3, e4⟩), a11.2⟩
    refine ⟨h.1, ?_, fun q => ⟨rf_mp_up hxu hlt (h.2.2 q).1, ?_⟩⟩
    · rw [rf_rv_102]
      exact h.2.1
    · rw [rf_rv_102]
      exact (h.2.2 q).2
  · rw [rf_ch_wh, h2 q]
    omega
  · rw [rf_ch_wh, h2' q]
    omega
  · rw [rf_ch_oc]
    exact h4 m
end VQJ3
