/-! ===== the desk's answers: the chain of a body ===== -/
theorem dv_drx {s : sx_S} : ∀ (n : Nat) {f : rf_N} {i : Int}, dz_nd s f i → ∃ w, dz_nd s (dz_dr n f) w
  | 0, _, i, h => ⟨i, h⟩
  | n + 1, .leaf, _, _ => ⟨-1, rfl⟩
  | n + 1, .inner _ _ _ _ x, _, h => dv_drx n h.2.2.2
theorem dv_nd1 {s : sx_S} {f : rf_N} {i k : Int} (h : dz_nd s f i) (g : dz_nd s f k) : i = k := by
  cases f with
  | leaf =>
    have h' : i = -1 := h
    have g' : k = -1 := g
    omega
  | inner j q u ff x =>
    have := h.1.1
    have := g.1.1
    omega
/-- the elder links stay -/
def dv_lf (s t : sx_S) : Prop := True → s.1 29 3 ≤ t.1 29 3 ∧ ∀ j : Nat, (j : Int) < s.1 29 3 → t.2.1 30 j = s.2.1 30 j ∧ t.2.1 31 j = s.2.1 31 j ∧ t.2.1 32 j = s.2.1 32 j
theorem dv_lf_refl (s : sx_S) : dv_lf s s := fun _ => ⟨Int.le_refl _, fun _ _ => ⟨rfl, rfl, rfl⟩⟩
theorem dv_lf_t {s t u : sx_S} (h1 : dv_lf s t) (h2 : dv_lf t u) : dv_lf s u := fun _ => by
  obtain ⟨a1, a2⟩ := h1 trivial
  obtain ⟨b1, b2⟩ := h2 trivial
  refine ⟨by omega, fun j hj => ?_⟩
  obtain ⟨c1, c2, c3⟩ := a2 j hj
  obtain ⟨d1, d2, d3⟩ := b2 j (by omega)
  exact ⟨d1.trans c1, d2.trans c2, d3.trans c3⟩
theorem dv_w1_lf {a0 a1 a2 : Int} {s t : sx_S} (h : dv_w1 a0 a1 a2 s t) : dv_lf s t := fun _ => by
  obtain ⟨h1, h2, _⟩ := h trivial
  exact ⟨by omega, fun j hj => h2 j (by omega)⟩
theorem dv_c_lf {s t : sx_S} {c : List (Int × Int)} {hi k : Int} (h : dv_lf s t) (hh : hi ≤ s.1 29 3) (hc : dv_c s c hi k) : dv_c t c hi k := dv_ch_fr (fun j hj => (h trivial).2 j (by omega)) hc
theorem dv_in_s {P : List (Int × Int)} {hs : List Int} {c : List (Int × Int)} {n : Nat} {q : Int × Int} (h : P[n]? = some q) : dv_in (P.take (n + 1)) hs c = (q.1, dv_lk c (hs.getD q.2.toNat (-1))) :: dv_in (P.take n) hs c := by
  unfold dv_in
  rw [List.take_succ, h, List.map_append, List.reverse_append]
  rfl
theorem dv_lk_rng {s : sx_S} {c : List (Int × Int)} {hi k : Int} (hI : cx_I s) (hc : dv_c s c hi k) : ∀ x, -2147483648 ≤ dv_lk c x ∧ dv_lk c x ≤ 2147483647 := by
  induction c generalizing hi k with
  | nil => exact fun x => ⟨by show (-2147483648 : Int) ≤ -1; omega, by show (-1 : Int) ≤ 2147483647; omega⟩
  | cons p r ih =>
    intro x
    obtain ⟨_, ⟨_, q2⟩, q3⟩ := hc
    show -2147483648 ≤ (if p.1 = x then p.2 else dv_lk r x) ∧ (if p.1 = x then p.2 else dv_lk r x) ≤ 2147483647
    by_cases e : p.1 = x
    · rw [if_pos e, ← q2]
      exact hI.arr 31 (by decide) rfl k.toNat
    · rw [if_neg e]
      exact ih q3 x

theorem c_dv_ins {sL : Nat} {sx : Nat → Int32} (hsL : sL ≤ 3072) (d : Nat) (hd : 3 ≤ d) : ∀ (a0 a1 hi x3 : Int) (F : rf_N) (P c : List (Int × Int)) (s : sx_S) (K : Int → sx_S → Prop), cx_I s → (0 ≤ a0 ∧ a0 < s.1 11 6) → (s.2.1 13 a0.toNat = x3 ∧ 0 ≤ x3 ∧ x3 < 32) → dz_nd s F (s.2.1 14 a0.toNat) → dv_pr s x3 P → (∀ q ∈ P, 0 ≤ q.2 ∧ q.2 < (rf_len F : Int)) → (rf_len F : Int) ≤ 1024 → dv_c s c hi a1 → hi ≤ s.1 29 3 → s.1 29 3 + (P.length : Int) ≤ 1024 → (∀ z t, cx_I t → cx_F [(29, 32)] s t → dv_lf s t → t.1 29 3 = s.1 29 3 + (P.length : Int) → dv_c t (dv_in P (dz_hs F) c) (t.1 29 3) z → K z t) → sx_C sL sx d 6 [.inr (.inl 33), .inl a0, .inl a1] s K := by
  intro a0 a1 hi x3 F P c s K hI p0 q3 hF hP hq hl hc hh hr hK
  have h0 := hI.fld 11 6 (by decide) rfl
  have h29 := hI.fld 29 3 (by decide) rfl
  have rc := dv_ch_rng hc
  obtain ⟨P1, P2, P3⟩ := hP trivial
  obtain ⟨d, rfl⟩ : ∃ e, d = e + 2 := ⟨d - 2, by omega⟩
  refine sx_methL (wr := true) (n := 400) (n' := 400) (stop := [(28, [0, 1, 2, 3, 4, 5])]) (fun nn pc ls u => pc = 28 ∧ ∃ (x4 : Int) (x5 : Nat), ls = [(0, .inr (.inl 33)), (1, .inl a0), (2, .inl a1), (3, .inl x3), (4, .inl x4), (5, .inl (x5 : Int))] ∧ cx_I u ∧ cx_F [(29, 32)] s u ∧ dv_lf s u ∧ u.1 29 3 = s.1 29 3 + (x5 : Int) ∧ dv_c u (dv_in (P.take x5) (dz_hs F) c) (u.1 29 3) x4 ∧ x5 ≤ P.length ∧ nn = P.length - x5) hsL (e := eX0_inside) rfl ?_ ?_
  · exact w_dv_ins (c_dz_head hsL (d + 1) (by omega)) hI p0 (by omega) q3 ⟨_, rfl, -1, 0, rfl, hI, cx_F_refl _ _, dv_lf_refl s, by omega, rfl, by omega, rfl⟩
  · rintro nn pc ls u ⟨rfl, x4, x5, rfl, i1, i2, i3, i4, i5, i6, rfl⟩
    have e35 : u.2.1 35 = s.2.1 35 := (i2.same 35 rfl).2
    have e36 : u.2.1 36 = s.2.1 36 := (i2.same 36 rfl).2
    have e37 : u.2.1 37 = s.2.1 37 := (i2.same 37 rfl).2
    have e11 : u.1 11 = s.1 11 := (i2.same 11 rfl).1
    have e12 : u.2.1 12 = s.2.1 12 := (i2.same 12 rfl).2
    have e13 : u.2.1 13 = s.2.1 13 := (i2.same 13 rfl).2
    have e14 : u.2.1 14 = s.2.1 14 := (i2.same 14 rfl).2
    have e15 : u.2.1 15 = s.2.1 15 := (i2.same 15 rfl).2
    have r4 := dv_ch_rng i5
    have h29u := i1.fld 29 3 (by decide) rfl
    have hFu : dz_nd u F (u.2.1 14 a0.toNat) := by
      show rf_nd (u.2.1 12) (u.2.1 13) (u.2.1 14) (u.2.1 15) (u.1 11 6) F (u.2.1 14 a0.toNat)
      rw [e11, e12, e13, e14, e15]
      exact hF
    by_cases hx : x5 < P.length
    · obtain ⟨q, hqq⟩ : ∃ q, P[x5]? = some q := ⟨_, List.getElem?_eq_getElem hx⟩
      obtain ⟨g1, g2⟩ := P3 x5 q hqq
      obtain ⟨g3, g4⟩ := hq q (List.mem_of_getElem? hqq)
      obtain ⟨w, hw⟩ := dv_drx q.2.toNat hFu
      obtain ⟨w1, w2⟩ := dv_nth (by omega) hw
      have hcu := dv_c_lf i3 hh hc
      have rl := dv_lk_rng i1 hcu ((dz_hs F).getD q.2.toNat (-1))
      have r13 := i1.arr 13 (by decide) rfl w.toNat
      have r36 := i1.arr 36 (by decide) rfl (x3 * 4 + (x5 : Int)).toNat
      refine w_dv_ins28 (w := w) (lv := dv_lk c ((dz_hs F).getD q.2.toNat (-1))) (c_dz_head hsL (d + 1) (by omega)) (fun _ K hK => ?_) (fun _ K hK => ?_) (fun _ K hK => ?_) i1 (by rw [e11]; exact p0) (by omega) q3.2 (by omega) (by rw [e35]; omega) (fun _ => w1) (fun h => absurd h (by rw [e35]; omega)) (fun _ t t1 t2 t3 => ?_)
      · refine c_dz_arg hsL (d + 1) (by omega) _ _ F _ _ i1 (by rw [e11]; exact p0) (by rw [e37, g2]; omega) hFu (fun z z1 z2 => ?_)
        rw [e37, g2] at z2
        rw [dv_nd1 z2 hw]
        exact hK
      · rw [w2]
        rw [w2] at r13
        exact c_dv_of hsL (d + 1) (by omega) _ _ hi c _ _ i1 r13 hcu (by omega) hK
      · exact c_dv_with hsL (d + 1) (by omega) _ _ _ _ _ i1 (by omega) (by omega) r36 rl hK
      · have t4 := dv_w1_c (by omega) t3 (Int.le_refl _) i5
        have t5 := (t3 trivial).1
        refine ⟨P.length - (x5 + 1), ?_, rfl, u.1 29 3, x5 + 1, ?_, t1, cx_F_step t2 rfl i2, dv_lf_t i3 (dv_w1_lf t3), by omega, ?_, by omega, rfl⟩
        · omega
        · rw [show (((x5 + 1 : Nat)) : Int) = (x5 : Int) + 1 by omega]
        · rw [dv_in_s hqq]
          rw [e36, g1] at t4
          exact t4
    · have hx' : x5 = P.length := by omega
      refine w_dv_ins28 (w := 0) (lv := 0) (c_dz_head hsL (d + 1) (by omega)) (fun h => absurd h (by rw [e35]; omega)) (fun h => absurd h (by rw [e35]; omega)) (fun h => absurd h (by rw [e35]; omega)) i1 (by rw [e11]; exact p0) (by omega) q3.2 (by omega) (by rw [e35]; omega) (fun h => absurd h (by rw [e35]; omega)) (fun _ => ?_) (fun h => absurd h (by rw [e35]; omega))
      rw [hx', List.take_length] at i5
      exact hK _ _ i1 i2 i3 (by omega) i5
