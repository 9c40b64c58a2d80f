/-! ===== the desk's answers: narrow ===== -/
theorem w_dv_nar {CALL : sx_Ca} {sL : Nat} {sx : Nat → Int32} {Q : Nat → sx_L → sx_S → Prop} {R : Int → sx_S → Prop} (h_head : ∀ (a0 : Int) (s : sx_S) (K : Int → sx_S → Prop), cx_I s → (-2147483648 ≤ a0 ∧ a0 ≤ 2147483647) → (∀ z : Int, (0 ≤ a0 → a0 < s.1 11 6 → z = s.2.1 13 a0.toNat) → (a0 < 0 → z = -1) → K z s) → CALL 92 [.inr (.inl 11), .inl a0] s K) (h_node : ∀ (a0 a1 : Int) (s : sx_S) (R : Int → sx_S → Prop), cx_I s → s.1 11 6 < 1024 → (-2147483648 ≤ a0 ∧ a0 ≤ 2147483647) → (-2147483648 ≤ a1 ∧ a1 ≤ 2147483647) → (∀ t, cx_I t → cx_F [(11, 17)] s t → dz_N1 a0 a1 (-1) s t → R (s.1 11 6) t) → CALL 88 [.inr (.inl 11), .inl a0, .inl a1] s R) (h_bind : ∀ (a0 a1 : Int) (s : sx_S) (R : Int → sx_S → Prop), cx_I s → (0 ≤ a0 ∧ a0 < 32) → (-2147483648 ≤ a1 ∧ a1 ≤ 2147483647) → (cx_I (s.1, sx_ua (sx_ua s.2.1 34 a0.toNat a1) 35 a0.toNat 0, s.2.2) → R 0 (s.1, sx_ua (sx_ua s.2.1 34 a0.toNat a1) 35 a0.toNat 0, s.2.2)) → CALL 7 [.inr (.inl 33), .inl a0, .inl a1] s R) {s : sx_S} {a0 a1 x3 : Int} (hI : cx_I s) (p0 : 0 ≤ a0 ∧ a0 < s.1 11 6) (p1 : -2147483648 ≤ a1 ∧ a1 ≤ 2147483647) (q3 : s.2.1 13 a0.toNat = x3 ∧ 0 ≤ x3 ∧ x3 < 32) (hr : s.1 33 6 < 32) (hN : s.1 11 6 < 1024) (hQ : ∀ t, cx_I t → cx_F [(11, 17)] s t → dz_N1 3 (s.1 33 6) (-1) s t → cx_I (sx_uf t.1 33 6 (t.1 33 6 + 1), sx_ua (sx_ua t.2.1 34 x3.toNat (s.1 11 6)) 35 x3.toNat 0, t.2.2) → Q 53 [(0, .inr (.inl 33)), (1, .inl a0), (2, .inl a1), (3, .inl x3), (4, .inl (s.1 11 6)), (5, .inl 0)] (sx_uf t.1 33 6 (t.1 33 6 + 1), sx_ua (sx_ua t.2.1 34 x3.toNat (s.1 11 6)) 35 x3.toNat 0, t.2.2)) : sx_wp true sL sx eX0_narrow CALL [(53, [0, 1, 2, 3, 4, 5])] Q R 400 0 (sx_argsF 0 [.inr (.inl 33), .inl a0, .inl a1]) [] s := by
  have h0 := hI.fld 11 6 (by decide) rfl
  have h33 := hI.fld 33 6 (by decide) rfl
  repeat' (first | (with_reducible (rintro _ rfl)) | (with_reducible intro _) | (refine And.intro ?_ ?_) | (refine h_head _ _ _ hI (by omega) (fun z z1 z2 => ?_); obtain rfl : z = x3 := by rw [z1 (by omega) (by omega)]; exact q3.1) | (refine h_node _ _ _ _ hI hN (by omega) (by omega) (fun t t1 t2 t3 => ?_)) | (have zz33 : t.1 33 = s.1 33 := (t2.same 33 rfl).1; have zzw : sx_w true (t.1 33 6 + 1) = t.1 33 6 + 1 := px_wid (by rw [zz33]; omega) (by rw [zz33]; omega); have zzi : cx_I (sx_uf t.1 33 6 (t.1 33 6 + 1), t.2) := cx_I_uf rfl rfl t1 (by rw [zz33]; omega) (by rw [zz33]; omega); refine h_bind _ (s.1 11 6) (sx_uf t.1 33 6 (sx_w true (t.1 33 6 + 1)), t.2) _ (by rw [zzw]; exact zzi) q3.2 (by omega) (fun zzb => ?_)))
  all_goals (try dsimp only at *)
  all_goals (first | trivial | assumption | omega | (exfalso; omega) | (rw [zzw] at zzb; have zz9 := hQ _ t1 t2 t3 zzb; rw [← zzw] at zz9; exact zz9) | skip)

theorem w_dv_nar53 {CALL : sx_Ca} {sL : Nat} {sx : Nat → Int32} {Q : Nat → sx_L → sx_S → Prop} {R : Int → sx_S → Prop} (h_arity : ∀ (a0 : Int) (s : sx_S) (K : Int → sx_S → Prop), cx_I s → (-2147483648 ≤ a0 ∧ a0 ≤ 2147483647) → (∀ z : Int, (0 ≤ a0 → a0 < s.1 11 6 → z = s.2.1 16 a0.toNat) → (a0 < 0 → z = 0) → K z s) → CALL 94 [.inr (.inl 11), .inl a0] s K) (h_head : ∀ (a0 : Int) (s : sx_S) (K : Int → sx_S → Prop), cx_I s → (-2147483648 ≤ a0 ∧ a0 ≤ 2147483647) → (∀ z : Int, (0 ≤ a0 → a0 < s.1 11 6 → z = s.2.1 13 a0.toNat) → (a0 < 0 → z = -1) → K z s) → CALL 92 [.inr (.inl 11), .inl a0] s K) (h_node : ∀ (a0 a1 : Int) (s : sx_S) (R : Int → sx_S → Prop), cx_I s → s.1 11 6 < 1024 → (-2147483648 ≤ a0 ∧ a0 ≤ 2147483647) → (-2147483648 ≤ a1 ∧ a1 ≤ 2147483647) → (∀ t, cx_I t → cx_F [(11, 17)] s t → dz_N1 a0 a1 (-1) s t → R (s.1 11 6) t) → CALL 88 [.inr (.inl 11), .inl a0, .inl a1] s R) (h_add : ∀ (a0 a1 a2 : Int) (s : sx_S) (R : Int → sx_S → Prop), cx_I s → (0 ≤ a0 ∧ a0 < 32) → (-2147483648 ≤ a1 ∧ a1 ≤ 2147483647) → (-2147483648 ≤ a2 ∧ a2 ≤ 2147483647) → s.2.1 35 a0.toNat < 4 → (cx_I (s.1, sx_ua (sx_ua (sx_ua s.2.1 36 (a0 * 4 + s.2.1 35 a0.toNat).toNat a1) 37 (a0 * 4 + s.2.1 35 a0.toNat).toNat a2) 35 a0.toNat (s.2.1 35 a0.toNat + 1), s.2.2) → R 0 (s.1, sx_ua (sx_ua (sx_ua s.2.1 36 (a0 * 4 + s.2.1 35 a0.toNat).toNat a1) 37 (a0 * 4 + s.2.1 35 a0.toNat).toNat a2) 35 a0.toNat (s.2.1 35 a0.toNat + 1), s.2.2)) → CALL 8 [.inr (.inl 33), .inl a0, .inl a1, .inl a2] s R) {s : sx_S} {a0 a1 x3 x4 x5 w n : Int} {G : sx_S → sx_S → Prop} (h_arg : x5 < n → ∀ K : Int → sx_S → Prop, K w s → CALL 95 [.inr (.inl 11), .inl a0, .inl x5] s K) (h_app : ∀ t1, cx_I t1 → cx_F [(11, 17)] s t1 → dz_N1 2 (s.2.1 13 w.toNat) (-1) s t1 → x5 < n → ∀ K : Int → sx_S → Prop, (∀ t2, G t1 t2 → K 0 t2) → CALL 90 [.inr (.inl 11), .inl x4, .inl (s.1 11 6)] t1 K) (hG : ∀ t1 t2, G t1 t2 → cx_I t2 ∧ t2.2.1 35 x3.toNat < 4) (hI : cx_I s) (p0 : 0 ≤ a0 ∧ a0 < s.1 11 6) (p1 : 0 ≤ a1 ∧ a1 < 32) (q3 : 0 ≤ x3 ∧ x3 < 32) (q4 : -2147483648 ≤ x4 ∧ x4 ≤ 2147483647) (q5 : 0 ≤ x5 ∧ x5 ≤ n ∧ n ≤ 4) (en : s.2.1 16 a0.toNat = n) (qw : x5 < n → 0 ≤ w ∧ w < s.1 11 6) (hN : x5 < n → s.1 11 6 < 1024) (hK : x5 = n → R 0 s) (hQ1 : x5 < n → dv_and a1 (dv_shl 1 x5) = 0 → Q 53 [(0, .inr (.inl 33)), (1, .inl a0), (2, .inl a1), (3, .inl x3), (4, .inl x4), (5, .inl (x5 + 1))] s) (hQ2 : x5 < n → ¬ dv_and a1 (dv_shl 1 x5) = 0 → ∀ t1 t2, cx_I t1 → cx_F [(11, 17)] s t1 → dz_N1 2 (s.2.1 13 w.toNat) (-1) s t1 → G t1 t2 → cx_I (t2.1, sx_ua (sx_ua (sx_ua t2.2.1 36 (x3 * 4 + t2.2.1 35 (x3).toNat).toNat ((s.2.1 13 w.toNat))) 37 (x3 * 4 + t2.2.1 35 (x3).toNat).toNat (x5)) 35 (x3).toNat (t2.2.1 35 (x3).toNat + 1), t2.2.2) → Q 53 [(0, .inr (.inl 33)), (1, .inl a0), (2, .inl a1), (3, .inl x3), (4, .inl x4), (5, .inl (x5 + 1))] (t2.1, sx_ua (sx_ua (sx_ua t2.2.1 36 (x3 * 4 + t2.2.1 35 (x3).toNat).toNat ((s.2.1 13 w.toNat))) 37 (x3 * 4 + t2.2.1 35 (x3).toNat).toNat (x5)) 35 (x3).toNat (t2.2.1 35 (x3).toNat + 1), t2.2.2)) : sx_wp true sL sx eX0_narrow CALL [(53, [0, 1, 2, 3, 4, 5])] Q R 400 53 [(0, .inr (.inl 33)), (1, .inl a0), (2, .inl a1), (3, .inl x3), (4, .inl x4), (5, .inl x5)] [] s := by
  have h0 := hI.fld 11 6 (by decide) rfl
  have h13 := hI.arr 13 (by decide) rfl w.toNat
  have zzy : sx_w true (x5 + 1) = x5 + 1 := px_wid (by omega) (by omega)
  repeat' (first | (with_reducible (rintro _ rfl)) | (with_reducible intro _) | (refine And.intro ?_ ?_) | (refine h_arity _ _ _ hI (by omega) (fun v v1 v2 => ?_); obtain rfl : v = n := (v1 p0.1 p0.2).trans en) | (refine h_arg (by omega) _ ?_) | (refine h_head _ _ _ hI (by have := qw (by omega); omega) (fun v v1 v2 => ?_); obtain rfl : v = (s.2.1 13 w.toNat) := v1 (qw (by omega)).1 (qw (by omega)).2) | (refine h_node _ _ _ _ hI (hN (by omega)) (by omega) h13 (fun t1 u1 u2 u3 => ?_)) | (refine h_app t1 u1 u2 u3 (by omega) _ (fun t2 v1 => ?_)) | (refine h_add _ _ _ t2 _ (hG _ _ v1).1 q3 h13 (by omega) (hG _ _ v1).2 (fun zzb => ?_)))
  all_goals (try dsimp only at *)
  all_goals (first | trivial | assumption | omega | (exfalso; omega) | (exact hK (by omega)) | (have zz9 := hQ1 (by omega) (by assumption); rw [← zzy] at zz9; exact zz9) | (have zz9 := hQ2 (by omega) (by assumption) _ _ u1 u2 u3 v1 zzb; rw [← zzy] at zz9; exact zz9) | skip)

/-- what narrowing leaves: the new call, its row Fn, the pairs -/
def dv_nr (k x : Int) (hs : List Int) (s t : sx_S) (Fn : rf_N) : Prop := True → (t.1 33 6 = s.1 33 6 + 1 ∧ t.1 11 6 = s.1 11 6 + 1 + ((dv_kp k 0 hs).length : Int)) ∧ dz_T (s.1 11 6) t (rf_n (s.1 11 6).toNat 3 (s.1 33 6) Fn .leaf) (s.1 11 6) ∧ dz_hs Fn = (dv_kp k 0 hs).map Prod.fst ∧ dz_fr (fun j => (j : Int) < s.1 11 6) s t ∧ (t.2.1 34 x.toNat = s.1 11 6 ∧ dv_pr t x (dv_kp k 0 hs)) ∧ (∀ j : Nat, j ≠ x.toNat → t.2.1 34 j = s.2.1 34 j ∧ t.2.1 35 j = s.2.1 35 j) ∧ (∀ j : Nat, j < x.toNat * 4 ∨ x.toNat * 4 + 4 ≤ j → t.2.1 36 j = s.2.1 36 j ∧ t.2.1 37 j = s.2.1 37 j) ∧ (t.1 11 8 = s.1 11 8 ∧ t.2.1 17 = s.2.1 17)
theorem dv_nr_0 {k x : Int} {s t : sx_S} (hI : cx_I s) (hx : 0 ≤ x) (t2 : cx_F [(11, 17)] s t) (t3 : dz_N1 3 (s.1 33 6) (-1) s t) : dv_nr k x [] s (sx_uf t.1 33 6 (t.1 33 6 + 1), sx_ua (sx_ua t.2.1 34 x.toNat (s.1 11 6)) 35 x.toNat 0, t.2.2) .leaf := fun _ => by
  have h0 := hI.fld 11 6 (by decide) rfl
  have h33 := hI.fld 33 6 (by decide) rfl
  have e33 : t.1 33 = s.1 33 := (t2.same 33 rfl).1
  have a34 : t.2.1 34 = s.2.1 34 := (t2.same 34 rfl).2
  have a35 : t.2.1 35 = s.2.1 35 := (t2.same 35 rfl).2
  have a36 : t.2.1 36 = s.2.1 36 := (t2.same 36 rfl).2
  have a37 : t.2.1 37 = s.2.1 37 := (t2.same 37 rfl).2
  have hT := dz_T_new t3 h0.1 (by omega) h33.1
  have hfr : dz_fr (fun _ => True) t (sx_uf t.1 33 6 (t.1 33 6 + 1), sx_ua (sx_ua t.2.1 34 x.toNat (s.1 11 6)) 35 x.toNat 0, t.2.2) := fun _ => ⟨by show t.1 11 6 ≤ sx_uf t.1 33 6 (t.1 33 6 + 1) 11 6; rw [sx_uf_if, if_neg (by omega)]; exact Int.le_refl _, fun j _ => by simp [sx_ua_if]⟩
  obtain ⟨n1, n2, n3, _⟩ := t3 trivial
  refine ⟨⟨?_, ?_⟩, dz_T_fr hT hfr (fun _ _ => trivial), rfl, dz_fr_t hfr (dz_fr_N1 t3) (fun _ _ => trivial), ⟨by simp [sx_ua_if], fun _ => ⟨by simp [sx_ua_if, dv_kp], by simp [dv_kp], fun i q hq => by simp [dv_kp] at hq⟩⟩, fun j hj => by simp [sx_ua_if, hj, a34, a35], fun j _ => by simp [sx_ua_if, a36, a37], ⟨?_, ?_⟩⟩
  · show sx_uf t.1 33 6 (t.1 33 6 + 1) 33 6 = _
    rw [px_us, e33]
  · show sx_uf t.1 33 6 (t.1 33 6 + 1) 11 6 = _
    rw [sx_uf_if, if_neg (by omega), n1]
    simp [dv_kp]
  · show sx_uf t.1 33 6 (t.1 33 6 + 1) 11 8 = _
    rw [sx_uf_if, if_neg (by omega), n2]
  · show sx_ua (sx_ua t.2.1 34 x.toNat (s.1 11 6)) 35 x.toNat 0 17 = _
    rw [sx_ua_ne (by decide), sx_ua_ne (by decide), n3]
theorem dv_nr_no {k x h : Int} {l : List Int} {s t : sx_S} {Fn : rf_N} (hb : dv_tb k l.length = false) (h1 : dv_nr k x l s t Fn) : dv_nr k x (l ++ [h]) s t Fn := by
  have e : dv_kp k 0 (l ++ [h]) = dv_kp k 0 l := by
    rw [dv_kp_snoc, Nat.zero_add, hb]
    simp
  unfold dv_nr
  rw [e]
  exact h1
theorem dv_nr_yes {k x v : Int} {l : List Int} {s u t1 t2 : sx_S} {Fn : rf_N} (hI : cx_I s) (hIu : cx_I u) (hx : 0 ≤ x ∧ x < 32) (hl : l.length < 4) (hb : dv_tb k l.length = true) (hu : dv_nr k x l s u Fn) (u2 : cx_F [(11, 17)] u t1) (u3 : dz_N1 2 v (-1) u t1) (v1 : cx_F [(11, 17)] t1 t2) (v2 : t2.1 = t1.1 ∧ t2.2.1 17 = t1.2.1 17) (v3 : dz_T (s.1 11 6) t2 (rf_n (s.1 11 6).toNat 3 (s.1 33 6) (rf_snoc Fn (rf_n (u.1 11 6).toNat 2 v .leaf .leaf)) .leaf) (s.1 11 6)) (v4 : dz_fr (fun j => j ∉ rf_idx (rf_n (s.1 11 6).toNat 3 (s.1 33 6) Fn .leaf)) t1 t2) : dv_nr k x (l ++ [v]) s (t2.1, sx_ua (sx_ua (sx_ua t2.2.1 36 (x * 4 + t2.2.1 35 (x).toNat).toNat (v)) 37 (x * 4 + t2.2.1 35 (x).toNat).toNat ((l.length : Int))) 35 (x).toNat (t2.2.1 35 (x).toNat + 1), t2.2.2) (rf_snoc Fn (rf_n (u.1 11 6).toNat 2 v .leaf .leaf)) := fun _ => by
  have h0 := hI.fld 11 6 (by decide) rfl
  have e : dv_kp k 0 (l ++ [v]) = dv_kp k 0 l ++ [(v, (l.length : Int))] := by
    rw [dv_kp_snoc, Nat.zero_add, hb]
    simp
  have lk := dv_kp_len (k := k) (l := l) (i := 0)
  obtain ⟨⟨c1, c2⟩, c3, c4, c5, ⟨c6, c7⟩, c8, c9, c10, c11⟩ := hu trivial
  obtain ⟨n1, n2, n3, n4, n5⟩ := u3 trivial
  obtain ⟨P1, P2, P3⟩ := c7 trivial
  have w33 : t2.1 33 = u.1 33 := by rw [v2.1, (u2.same 33 rfl).1]
  have w34 : t2.2.1 34 = u.2.1 34 := by rw [(v1.same 34 rfl).2, (u2.same 34 rfl).2]
  have w35 : t2.2.1 35 = u.2.1 35 := by rw [(v1.same 35 rfl).2, (u2.same 35 rfl).2]
  have w36 : t2.2.1 36 = u.2.1 36 := by rw [(v1.same 36 rfl).2, (u2.same 36 rfl).2]
  have w37 : t2.2.1 37 = u.2.1 37 := by rw [(v1.same 37 rfl).2, (u2.same 37 rfl).2]
  have hfr : dz_fr (fun _ => True) t2 (t2.1, sx_ua (sx_ua (sx_ua t2.2.1 36 (x * 4 + t2.2.1 35 (x).toNat).toNat (v)) 37 (x * 4 + t2.2.1 35 (x).toNat).toNat ((l.length : Int))) 35 (x).toNat (t2.2.1 35 (x).toNat + 1), t2.2.2) := fun _ => ⟨Int.le_refl _, fun j _ => by simp [sx_ua_if]⟩
  have hix : (x * 4 + t2.2.1 35 x.toNat).toNat = x.toNat * 4 + (dv_kp k 0 l).length := by
    rw [w35, P1]
    omega
  rw [e]
  refine ⟨⟨?_, ?_⟩, dz_T_fr v3 hfr (fun _ _ => trivial), ?_, ?_, ⟨?_, ?_⟩, fun j hj => ?_, fun j hj => ?_, ?_, ?_⟩
  · show t2.1 33 6 = _
    rw [w33]
    exact c1
  · show t2.1 11 6 = _
    rw [v2.1, n1, c2, List.length_append]
    simp
    omega
  · rw [dz_hs_snoc, c4, List.map_append]
    rfl
  · refine dz_fr_t hfr (dz_fr_t v4 (dz_fr_t (dz_fr_N1 u3) c5 (fun j hj => ?_)) (fun j hj hm => ?_)) (fun _ _ => trivial)
    · have hj' : (j : Int) < s.1 11 6 := hj
      show (j : Int) < u.1 11 6
      omega
    · have hj' : (j : Int) < s.1 11 6 := hj
      have := (c3 trivial).2.2.2.1 j hm
      omega
  · show sx_ua (sx_ua (sx_ua t2.2.1 36 (x * 4 + t2.2.1 35 x.toNat).toNat v) 37 (x * 4 + t2.2.1 35 x.toNat).toNat (l.length : Int)) 35 x.toNat (t2.2.1 35 x.toNat + 1) 34 x.toNat = _
    rw [sx_ua_ne (by decide), sx_ua_ne (by decide), sx_ua_ne (by decide), w34]
    exact c6
  · intro _
    refine ⟨?_, ?_, fun i q hq => ?_⟩
    · show sx_ua (sx_ua (sx_ua t2.2.1 36 (x * 4 + t2.2.1 35 x.toNat).toNat v) 37 (x * 4 + t2.2.1 35 x.toNat).toNat (l.length : Int)) 35 x.toNat (t2.2.1 35 x.toNat + 1) 35 x.toNat = _
      rw [sx_ua_same]
      dsimp only
      rw [if_pos rfl, w35, P1, List.length_append]
      simp
    · rw [List.length_append]
      show _ + 1 ≤ 4
      omega
    · show sx_ua (sx_ua (sx_ua t2.2.1 36 (x * 4 + t2.2.1 35 x.toNat).toNat v) 37 (x * 4 + t2.2.1 35 x.toNat).toNat (l.length : Int)) 35 x.toNat (t2.2.1 35 x.toNat + 1) 36 (x * 4 + (i : Int)).toNat = _ ∧ sx_ua (sx_ua (sx_ua t2.2.1 36 (x * 4 + t2.2.1 35 x.toNat).toNat v) 37 (x * 4 + t2.2.1 35 x.toNat).toNat (l.length : Int)) 35 x.toNat (t2.2.1 35 x.toNat + 1) 37 (x * 4 + (i : Int)).toNat = _
      rw [hix]
      have hi : (x * 4 + (i : Int)).toNat = x.toNat * 4 + i := by omega
      rw [hi, sx_ua_ne (by decide), sx_ua_ne (by decide), sx_ua_same, sx_ua_ne (by decide), sx_ua_same]
      dsimp only
      by_cases hc : i < (dv_kp k 0 l).length
      · rw [List.getElem?_append_left hc] at hq
        obtain ⟨d1, d2⟩ := P3 i q hq
        rw [hi] at d1 d2
        rw [if_neg (by omega), if_neg (by omega), w36, sx_ua_ne (by decide), w37]
        exact ⟨d1, d2⟩
      · rw [List.getElem?_append_right (by omega)] at hq
        have hz : i - (dv_kp k 0 l).length = 0 := by
          obtain ⟨hlt, _⟩ := List.getElem?_eq_some_iff.mp hq
          simp at hlt
          omega
        rw [hz] at hq
        have hq' : (v, (l.length : Int)) = q := by simpa using hq
        have hie : x.toNat * 4 + i = x.toNat * 4 + (dv_kp k 0 l).length := by omega
        rw [if_pos hie, if_pos hie, ← hq']
        exact ⟨rfl, rfl⟩
  · show sx_ua (sx_ua (sx_ua t2.2.1 36 (x * 4 + t2.2.1 35 x.toNat).toNat v) 37 (x * 4 + t2.2.1 35 x.toNat).toNat (l.length : Int)) 35 x.toNat (t2.2.1 35 x.toNat + 1) 34 j = _ ∧ sx_ua (sx_ua (sx_ua t2.2.1 36 (x * 4 + t2.2.1 35 x.toNat).toNat v) 37 (x * 4 + t2.2.1 35 x.toNat).toNat (l.length : Int)) 35 x.toNat (t2.2.1 35 x.toNat + 1) 35 j = _
    rw [sx_ua_ne (by decide), sx_ua_ne (by decide), sx_ua_ne (by decide), sx_ua_same]
    dsimp only
    rw [if_neg hj, w34, sx_ua_ne (by decide), sx_ua_ne (by decide), w35]
    exact c8 j hj
  · show sx_ua (sx_ua (sx_ua t2.2.1 36 (x * 4 + t2.2.1 35 x.toNat).toNat v) 37 (x * 4 + t2.2.1 35 x.toNat).toNat (l.length : Int)) 35 x.toNat (t2.2.1 35 x.toNat + 1) 36 j = _ ∧ sx_ua (sx_ua (sx_ua t2.2.1 36 (x * 4 + t2.2.1 35 x.toNat).toNat v) 37 (x * 4 + t2.2.1 35 x.toNat).toNat (l.length : Int)) 35 x.toNat (t2.2.1 35 x.toNat + 1) 37 j = _
    rw [hix, sx_ua_ne (by decide), sx_ua_ne (by decide), sx_ua_same, sx_ua_ne (by decide), sx_ua_same]
    dsimp only
    rw [if_neg (by omega), if_neg (by omega), w36, sx_ua_ne (by decide), w37]
    exact c9 j hj
  · show t2.1 11 8 = _
    rw [v2.1, n2, c10]
  · show sx_ua (sx_ua (sx_ua t2.2.1 36 (x * 4 + t2.2.1 35 x.toNat).toNat v) 37 (x * 4 + t2.2.1 35 x.toNat).toNat (l.length : Int)) 35 x.toNat (t2.2.1 35 x.toNat + 1) 17 = _
    rw [sx_ua_ne (by decide), sx_ua_ne (by decide), sx_ua_ne (by decide), v2.2, n3, c11]
