/-! ===== a narrowing, of the state and of the memory ===== -/
theorem dv_kp_snd {k : Int} : ∀ {l : List Int} {i : Nat}, ((dv_kp k i l).map Prod.snd).Pairwise (· < ·) ∧ ∀ q ∈ dv_kp k i l, (i : Int) ≤ q.2
  | [], _ => ⟨List.Pairwise.nil, fun _ h => absurd h List.not_mem_nil⟩
  | x :: l, i => by
    obtain ⟨h1, h2⟩ := dv_kp_snd (k := k) (l := l) (i := i + 1)
    rw [dv_kp_c]
    by_cases b : dv_tb k i = true
    · rw [if_pos b, List.map_cons]
      refine ⟨List.pairwise_cons.mpr ⟨fun y hy => ?_, h1⟩, fun q hq => ?_⟩
      · obtain ⟨q, q1, q2⟩ := List.mem_map.mp hy
        have := h2 q q1
        show (i : Int) < y
        omega
      · rcases List.mem_cons.mp hq with rfl | hq
        · exact Int.le_refl _
        · have := h2 q hq
          omega
    · rw [if_neg b]
      exact ⟨h1, fun q hq => by have := h2 q hq; omega⟩
theorem dv_kp_fst {k : Int} : ∀ {l : List Int} {i : Nat}, ((dv_kp k i l).map Prod.fst).Sublist l
  | [], _ => List.Sublist.slnil
  | x :: l, i => by
    have ih := dv_kp_fst (k := k) (l := l) (i := i + 1)
    rw [dv_kp_c]
    by_cases b : dv_tb k i = true
    · rw [if_pos b, List.map_cons]
      exact List.Sublist.cons₂ _ ih
    · rw [if_neg b]
      exact List.Sublist.cons _ ih
theorem dv_kp_lt {k : Int} : ∀ {l : List Int} {i j : Nat}, j < l.length → dv_tb k (i + j) = false → (dv_kp k i l).length < l.length
  | [], _, _, h, _ => absurd h (Nat.not_lt_zero _)
  | x :: l, i, 0, _, hb => by
    have hb' : dv_tb k i = false := hb
    have := dv_kp_len (k := k) (l := l) (i := i + 1)
    rw [dv_kp_c, hb', List.length_cons]
    show (dv_kp k (i + 1) l).length < _
    omega
  | x :: l, i, j + 1, h, hb => by
    have ih := dv_kp_lt (k := k) (l := l) (i := i + 1) (j := j) (by rw [List.length_cons] at h; omega) (by rw [show i + 1 + j = i + (j + 1) by omega]; exact hb)
    rw [dv_kp_c, List.length_cons]
    by_cases b : dv_tb k i = true
    · rw [if_pos b, List.length_cons]
      omega
    · rw [if_neg b]
      omega
/-- the state after it -/
def dv_nT (S : vx_S) (x : Int) (N : Nat) (nn : Int) (Fn : rf_N) (P : List (Int × Int)) : vx_S := (S.1 + 1, nn, fun v => if v = S.1 then (P.length : Int) else S.2.2.1 v, fun v => if v = x then some (rf_n N 3 S.1 Fn .leaf, dv_lk P.reverse) else S.2.2.2.1 v, fun i => if i = N then P.map Prod.fst else S.2.2.2.2 i)
theorem dv_nr_T {tv tc : Int → rf_T} {tm : Int → Int → rf_T} {S : vx_S} {PR : Int → List (Int × Int)} {s t : sx_S} {j : Nat} {x k a0 : Int} {F Fn : rf_N} (hI : cx_I s) (hM : dv_M s S PR) (hT : vx_TS tv tc tm S PR) (hC : vx_CT S) (hA : dv_at s S.2.2.2.2 (rf_n j 3 x F .leaf) a0) (hin : vx_in S (rf_n j 3 x F .leaf)) (hty : ∀ (i : Nat) y, (S.2.2.2.2 j)[i]? = some y → tv y = tm x i) (hx : S.2.2.2.1 x = none) (h : dv_nr k x (dz_hs F) s t Fn) (hlt : ∃ i, i < (S.2.2.2.2 j).length ∧ dv_tb k i = false) (hF33 : cx_F [(11, 17), (33, 37)] s t) : ∃ (T : vx_S) (PR' : Int → List (Int × Int)) (tm' : Int → Int → rf_T) (eu : Int → Int) (zs ks : List Int) (jn : Nat), vx_nw S T x jn Fn eu zs ks ∧ dv_M t T PR' ∧ vx_TS tv tc tm' T PR' ∧ vx_CT T ∧ (∀ m i, m < S.1 → tm' m i = tm m i) ∧ dv_nf (s.1 11 6) S.2.2.2.2 T.2.2.2.2 s t ∧ ∀ i : Nat, i < (S.2.2.2.2 j).length → ((i : Int) ∈ ks ↔ dv_tb k i = true) := by
  obtain ⟨⟨M1, M2, M3, M5⟩, M4⟩ := hM trivial
  obtain ⟨⟨W, B1, Sc, rk, hrk⟩, TS⟩ := hT trivial
  obtain ⟨c0, _, _, _, c4, c5, _⟩ := hC trivial
  obtain ⟨x0, x1⟩ := hin.1 x (Or.inl ⟨rfl, rfl⟩)
  have hl := vx_in_len hin
  obtain ⟨_, _, _, _, _, _, _, _, _, q10⟩ := dv_at_hd hA
  obtain ⟨q13, q14, q15⟩ := q10 rfl
  rw [← q13] at h
  obtain ⟨⟨n1, n2⟩, n3, n4, n5, ⟨n6, n7⟩, n8, n9, n10, n11⟩ := h trivial
  have h0 := hI.fld 11 6 (by decide) rfl
  have P1 : ((dv_kp k 0 (S.2.2.2.2 j)).map Prod.fst).Nodup := List.Nodup.sublist dv_kp_fst q14
  have P2 : ((dv_kp k 0 (S.2.2.2.2 j)).map Prod.snd).Nodup := List.Pairwise.imp (fun q e => by omega) (dv_kp_snd (k := k) (l := S.2.2.2.2 j) (i := 0)).1
  have P3 : ∀ q ∈ dv_kp k 0 (S.2.2.2.2 j), (0 ≤ q.2 ∧ q.2 < S.2.2.1 x) ∧ (S.2.2.2.2 j)[q.2.toNat]? = some q.1 ∧ dv_tb k q.2.toNat = true := fun q hq => by
    obtain ⟨i, e1, e2, e3⟩ := dv_kp_mem.mp hq
    rw [Nat.zero_add] at e2 e3
    obtain ⟨hi, _⟩ := List.getElem?_eq_some_iff.mp e1
    have : q.2.toNat = i := by omega
    rw [this]
    exact ⟨by omega, e1, e3⟩
  have Plt : ((dv_kp k 0 (S.2.2.2.2 j)).length : Int) < S.2.2.1 x := by
    obtain ⟨i, i1, i2⟩ := hlt
    have := dv_kp_lt (k := k) (l := S.2.2.2.2 j) (i := 0) (j := i) i1 (by rw [Nat.zero_add]; exact i2)
    omega
  generalize hP : dv_kp k 0 (S.2.2.2.2 j) = P at *
  have Pr := dv_lk_rev P1
  have lkP : ∀ q ∈ P, dv_lk P.reverse q.1 = q.2 := fun q hq => dv_lk_mem Pr (List.mem_reverse.mpr hq)
  have ltN := dz_T_lt n3
  have bS : S.2.2.2.1 S.1 = none := by
    cases hb : S.2.2.2.1 S.1 with
    | none => rfl
    | some p =>
      obtain ⟨B, e⟩ := p
      have := (W S.1 B e hb).1
      omega
  have eub : ∀ z, dv_lk P.reverse z < S.2.2.1 x := fun z => by
    rcases dv_lk_in (l := P.reverse) (x := z) with q | ⟨q, _⟩
    · exact (P3 _ (List.mem_reverse.mp q)).1.2
    · have := (c5 x x0 x1).1
      omega
  have hmap : (P.map Prod.fst).map (dv_lk P.reverse) = P.map Prod.snd := by
    rw [List.map_map]
    exact List.map_congr_left (fun q hq => lkP q hq)
  have hnw : vx_nw S (dv_nT S x (s.1 11 6).toNat (t.1 11 6) Fn P) x (s.1 11 6).toNat Fn (dv_lk P.reverse) (P.map Prod.fst) (P.map Prod.snd) := by
    refine ⟨⟨rfl, by show S.2.1 ≤ t.1 11 6; omega, by omega, by show ((s.1 11 6).toNat : Int) < t.1 11 6; omega, fun i hi => ltN i (List.mem_cons_of_mem _ (List.mem_append_left _ hi))⟩, ⟨hx, bS, x0, x1⟩, fun v => ?_, fun v => rfl, fun i hi => ?_, ?_, hmap, P2, fun y hy => ?_, eub⟩
    · show (if v = S.1 then (P.length : Int) else S.2.2.1 v) = _
      rw [List.length_map]
    · show (if i = (s.1 11 6).toNat then P.map Prod.fst else S.2.2.2.2 i) = _
      rw [if_neg (by omega)]
    · show (if (s.1 11 6).toNat = (s.1 11 6).toNat then P.map Prod.fst else S.2.2.2.2 _) = _
      rw [if_pos rfl]
    · obtain ⟨q, q1, q2⟩ := List.mem_map.mp hy
      rw [← q2]
      exact (P3 q q1).1
  have hnf : dv_nf (s.1 11 6) S.2.2.2.2 (dv_nT S x (s.1 11 6).toNat (t.1 11 6) Fn P).2.2.2.2 s t := fun _ => ⟨n5, fun i hi => by
    show (if i = (s.1 11 6).toNat then P.map Prod.fst else S.2.2.2.2 i) = _
    rw [if_neg (by omega)]⟩
  have hle := vx_nw_le hnw
  have hbx : (dv_nT S x (s.1 11 6).toNat (t.1 11 6) Fn P).2.2.2.1 x = some (rf_n (s.1 11 6).toNat 3 S.1 Fn .leaf, dv_lk P.reverse) := if_pos rfl
  have rfN : rf_len Fn = P.length := by
    have := dz_hs_len Fn
    rw [n4, List.length_map] at this
    omega
  obtain ⟨N1, N2, N3, N4, N5⟩ := n3 trivial
  have hatn : dv_at t (dv_nT S x (s.1 11 6).toNat (t.1 11 6) Fn P).2.2.2.2 (rf_n (s.1 11 6).toNat 3 S.1 Fn .leaf) (s.1 11 6) := by
    obtain ⟨⟨p1, p2⟩, ⟨p3, p4⟩, p5, p6⟩ := N1
    obtain ⟨⟨r1, r2, r3⟩, r4, r5⟩ := N2
    refine ⟨(s.1 11 6).toNat, 3, S.1, Fn, rfl, ⟨by omega, p2⟩, ⟨p3, by rw [← M1]; exact p4⟩, p5, ⟨Or.inr (Or.inr ⟨rfl, ⟨r3 vx_30, by have := (c5 x x0 x1).2; omega⟩, ?_, ?_, ?_⟩), c0, trivial⟩⟩
    · show (if (s.1 11 6).toNat = (s.1 11 6).toNat then P.map Prod.fst else S.2.2.2.2 _) = _
      rw [if_pos rfl, n4]
    · show (if (s.1 11 6).toNat = (s.1 11 6).toNat then P.map Prod.fst else S.2.2.2.2 _).Nodup
      rw [if_pos rfl]
      exact P1
    · show ∀ v ∈ (if (s.1 11 6).toNat = (s.1 11 6).toNat then P.map Prod.fst else S.2.2.2.2 _), 0 ≤ v
      rw [if_pos rfl]
      intro v hv
      obtain ⟨q, q1, q2⟩ := List.mem_map.mp hv
      rw [← q2]
      exact q15 _ (List.mem_of_getElem? (P3 q q1).2.1)
  obtain ⟨PR', hPR⟩ : ∃ f : Int → List (Int × Int), ∀ u, f u = if u = x then P else PR u := ⟨fun u => if u = x then P else PR u, fun _ => rfl⟩
  obtain ⟨tm', htm⟩ : ∃ f : Int → Int → rf_T, ∀ u i, f u i = if u = S.1 then tm x ((P.map Prod.snd).getD i.toNat 0) else tm u i := ⟨fun u i => if u = S.1 then tm x ((P.map Prod.snd).getD i.toNat 0) else tm u i, fun _ _ => rfl⟩
  refine ⟨dv_nT S x (s.1 11 6).toNat (t.1 11 6) Fn P, PR', tm', dv_lk P.reverse, P.map Prod.fst, P.map Prod.snd, (s.1 11 6).toNat, hnw, fun _ => ⟨⟨?_, rfl, ?_, fun u u0 u1 => ?_⟩, fun u u0 u1 => ?_⟩, fun _ => ⟨⟨vx_nw_W hnw W, vx_nw_B1 hnw B1, vx_nw_Sc hnw W Sc, _, vx_nw_rk hnw W hrk⟩, fun u B e hb => ?_⟩, vx_CT_nw hnw (by rw [List.length_map]; exact Plt) (by show t.1 11 6 = _; rw [List.length_map]; omega) hC, fun m i hm => by rw [htm, if_neg (by omega)], hnf, fun i hi => ?_⟩
  · show t.1 33 6 = S.1 + 1
    omega
  · show S.1 + 1 ≤ 32
    omega
  · have u0' : S.1 + 1 ≤ (u : Int) := u0
    rw [(n8 u (by omega)).1]
    exact M5 u (by omega) u1
  · have u1' : u < S.1 + 1 := u1
    show (if u = S.1 then (P.length : Int) else S.2.2.1 u) ≤ 4 ∧ _
    by_cases e1 : u = S.1
    · refine ⟨by rw [if_pos e1]; have := (c5 x x0 x1).2; omega, Or.inl ⟨?_, ?_⟩⟩
      · show (if u = x then _ else S.2.2.2.1 u) = none
        rw [if_neg (by omega), e1]
        exact bS
      · rw [(n8 u.toNat (by omega)).1]
        exact M5 u.toNat (by omega) (by omega)
    · rw [if_neg e1]
      obtain ⟨au, bu⟩ := M4 u u0 (by omega)
      refine ⟨au, ?_⟩
      by_cases e2 : u = x
      · refine Or.inr ⟨rf_n (s.1 11 6).toNat 3 S.1 Fn .leaf, ?_, ?_, ?_, ?_, ?_, ?_⟩
        · show (if u = x then _ else S.2.2.2.1 u) = some (_, dv_lk (PR' u).reverse)
          rw [if_pos e2, hPR, if_pos e2]
        · rw [e2, n6]
          exact hatn
        · rw [hPR, if_pos e2, e2]
          exact n7
        · intro q hq
          rw [hPR, if_pos e2] at hq
          show 0 ≤ q.2 ∧ q.2 < (if u = S.1 then (P.length : Int) else S.2.2.1 u)
          rw [if_neg e1, e2]
          exact (P3 q hq).1
        · rw [hPR, if_pos e2]
          exact P1
        · rw [hPR, if_pos e2]
          exact P2
      · have hne : u.toNat ≠ x.toNat := by omega
        rcases bu with ⟨b1, b2⟩ | ⟨B, b1, b2, b3, b4, b5, b6⟩
        · refine Or.inl ⟨?_, by rw [(n8 u.toNat hne).1]; exact b2⟩
          show (if u = x then _ else S.2.2.2.1 u) = none
          rw [if_neg e2]
          exact b1
        · refine Or.inr ⟨B, ?_, ?_, ?_, ?_, ?_, ?_⟩
          · show (if u = x then _ else S.2.2.2.1 u) = some (_, dv_lk (PR' u).reverse)
            rw [if_neg e2, hPR, if_neg e2]
            exact b1
          · rw [(n8 u.toNat hne).1]
            exact dv_at_fr (Int.le_refl _) hnf b2
          · rw [hPR, if_neg e2]
            intro _
            obtain ⟨r1, r2, r3⟩ := b3 trivial
            refine ⟨by rw [(n8 u.toNat hne).2]; exact r1, r2, fun i q hq => ?_⟩
            obtain ⟨r4, r5⟩ := r3 i q hq
            obtain ⟨hi, _⟩ := List.getElem?_eq_some_iff.mp hq
            obtain ⟨r6, r7⟩ := n9 (u * 4 + (i : Int)).toNat (by omega)
            exact ⟨r6.trans r4, r7.trans r5⟩
          · intro q hq
            rw [hPR, if_neg e2] at hq
            show 0 ≤ q.2 ∧ q.2 < (if u = S.1 then (P.length : Int) else S.2.2.1 u)
            rw [if_neg e1]
            exact b4 q hq
          · rw [hPR, if_neg e2]
            exact b5
          · rw [hPR, if_neg e2]
            exact b6
  · have hb' : (if u = x then some (rf_n (s.1 11 6).toNat 3 S.1 Fn .leaf, dv_lk P.reverse) else S.2.2.2.1 u) = some (B, e) := hb
    by_cases e2 : u = x
    · rw [if_pos e2] at hb'
      rw [hPR, if_pos e2]
      obtain ⟨rfl, rfl⟩ := Prod.mk.inj (Option.some.inj hb')
      refine ⟨rfl, ⟨⟨_, _, _, _, rfl⟩, Or.inr (Or.inr (Or.inr ⟨rfl, rfl, fun i y hy => ?_⟩))⟩, fun q hq => ?_, P1, P2, ⟨Or.inr (Or.inr rfl), trivial⟩⟩
      · have hy' : (if (s.1 11 6).toNat = (s.1 11 6).toNat then P.map Prod.fst else S.2.2.2.2 (s.1 11 6).toNat)[i]? = some y := hy
        rw [if_pos rfl, List.getElem?_map] at hy'
        cases hp : P[i]? with
        | none =>
          rw [hp] at hy'
          cases hy'
        | some q =>
          rw [hp] at hy'
          have e3 : q.1 = y := Option.some.inj hy'
          show tv y = tm' S.1 (i : Int)
          rw [htm, if_pos rfl, List.getD_eq_getElem?_getD, Int.toNat_natCast, List.getElem?_map, hp]
          show tv y = tm x q.2
          obtain ⟨p1, p2, _⟩ := P3 q (List.mem_of_getElem? hp)
          have p3 := hty q.2.toNat q.1 p2
          rw [Int.toNat_of_nonneg p1.1] at p3
          rw [← e3]
          exact p3
      · show tv q.1 = tm' u q.2 ∧ 0 ≤ q.2 ∧ q.2 < (if u = S.1 then (P.length : Int) else S.2.2.1 u) ∧ 0 ≤ q.1
        obtain ⟨p1, p2, _⟩ := P3 q hq
        have p3 := hty q.2.toNat q.1 p2
        rw [Int.toNat_of_nonneg p1.1] at p3
        rw [htm, if_neg (by omega), if_neg (by omega), e2]
        exact ⟨p3, p1.1, p1.2, q15 _ (List.mem_of_getElem? p2)⟩
    · rw [if_neg e2] at hb'
      rw [hPR, if_neg e2]
      obtain ⟨t1, ⟨t2, t3⟩, t4, t5, t6, t7⟩ := TS u B e hb'
      obtain ⟨w1, w2, _⟩ := W u B e hb'
      refine ⟨t1, ⟨t2, (vx_ty_cg (fun m i hm => by rw [htm, if_neg (by have := (w2.1 m hm).2; omega)]) (fun i hi => hle.2.2.2 i (w2.2.1 i hi))).1 _ t3⟩, fun q hq => ?_, t5, t6, t7⟩
      show tv q.1 = tm' u q.2 ∧ 0 ≤ q.2 ∧ q.2 < (if u = S.1 then (P.length : Int) else S.2.2.1 u) ∧ 0 ≤ q.1
      rw [htm, if_neg (by omega), if_neg (by omega)]
      exact t4 q hq
  · constructor
    · intro hm
      obtain ⟨q, q1, q2⟩ := List.mem_map.mp hm
      obtain ⟨p1, p2, p3⟩ := P3 q q1
      rw [q2] at p3
      rw [Int.toNat_natCast] at p3
      exact p3
    · intro hb
      rw [← hP]
      exact List.mem_map.mpr ⟨((S.2.2.2.2 j)[i], (i : Int)), dv_kp_mem.mpr ⟨i, List.getElem?_eq_getElem hi, by rw [Nat.zero_add], by rw [Nat.zero_add]; exact hb⟩, rfl⟩
