/-! ===== the reference: a long form under way, its steps ===== -/
theorem rf_xu_arr {s t : sx_S} (h1 : t.1 = s.1) (h2 : ∀ p, (p = 72 ∨ p = 73 ∨ p = 96 ∨ p = 104 ∨ p = 105 ∨ p = 106 ∨ p = 123) → t.2.1 p = s.2.1 p) : rf_xu s t := by
  refine ⟨fun j => ⟨by rw [h1]; exact Int.le_refl _, fun _ => ⟨by rw [h2 72 (by decide)], by rw [h2 73 (by decide)]⟩⟩, fun j => ⟨⟨by rw [h1]; exact Int.le_refl _, by rw [h1]; exact Int.le_refl _, by rw [h1]; exact Int.le_refl _, by rw [h1], by rw [h1]⟩, fun _ => by rw [h2 106 (by decide)], fun _ => by rw [h2 105 (by decide)], fun _ => by rw [h2 104 (by decide)], by rw [h2 96 (by decide)], by rw [h2 123 (by decide)]⟩⟩
theorem rf_xu_var {s : sx_S} {B : (Nat → Nat → Int) × Nat} {w n v : Int} (hw : w = s.1 66 56 + 1) (hn : n = s.1 66 56) (h0 : 0 ≤ n) : rf_xu s (sx_uf s.1 66 56 w, sx_ua s.2.1 105 n.toNat v, B) := by
  have e : ∀ q, q ≠ 56 → sx_uf s.1 66 56 w 66 q = s.1 66 q := fun q hq => by
    rw [sx_uf_if]
    exact if_neg (fun c => hq c.2)
  have e56 : sx_uf s.1 66 56 w 66 56 = w := by
    rw [sx_uf_if]
    exact if_pos ⟨rfl, rfl⟩
  have a : ∀ q, q ≠ 105 → sx_ua s.2.1 105 n.toNat v q = s.2.1 q := fun q hq => sx_ua_ne hq
  refine ⟨fun j => ?_, fun j => ?_⟩
  · dsimp only
    rw [e 9 (by decide), a 72 (by decide), a 73 (by decide)]
    exact ⟨Int.le_refl _, fun _ => ⟨rfl, rfl⟩⟩
  · dsimp only
    rw [e 58 (by decide), e56, e 50 (by decide), e 42 (by decide), e 45 (by decide), a 106 (by decide), a 104 (by decide), a 96 (by decide), a 123 (by decide), sx_ua_same]
    dsimp only
    refine ⟨⟨Int.le_refl _, by omega, Int.le_refl _, rfl, rfl⟩, fun _ => rfl, fun hj => ?_, fun _ => rfl, rfl, rfl⟩
    rw [if_neg (by omega)]
section RFJ2
variable {x1 : Int} {k : Int × Int} {f0 : rf_N} {x : rf_T} {u t : sx_S} {x3 x4 : Int} {y ye A B : rf_T} {i0 ib : Int} {pe vs : List Int}
/-- an unknown gets a variable more -/
theorem rf_J_met {Bs : (Nat → Nat → Int) × Nat} {w n x6 : Int} (h : rf_J x1 k f0 x u x3 x4 B (rf_a A B) i0 [x6] vs ib) (hk : k.1 = 3) (hw : w = u.1 66 56 + 1) (hn : n = u.1 66 56) (h0 : 0 ≤ n) (hv : rf_vt u x6 A) : rf_J x1 k f0 x (sx_uf u.1 66 56 w, sx_ua u.2.1 105 n.toNat x6, Bs) x3 x4 B B i0 [] vs ib := by
  have hx := rf_xu_var (B := Bs) (v := x6) hw hn h0
  obtain ⟨C, f, a1, a2, a3, a4, a5, a6, a7, a8, a9, a10, a11⟩ := h
  have hlt := rf_nd_lt a1 x1.toNat List.mem_cons_self
  have e50 : sx_uf u.1 66 56 w 66 50 = u.1 66 50 := by
    rw [sx_uf_if]
    exact if_neg (fun c => by cases c.2)
  have e56 : sx_uf u.1 66 56 w 66 56 = w := by
    rw [sx_uf_if]
    exact if_pos ⟨rfl, rfl⟩
  have a : ∀ q, q ≠ 105 → sx_ua u.2.1 105 n.toNat x6 q = u.2.1 q := fun q hq => sx_ua_ne hq
  have hno : ∀ m i, rf_no u m i → rf_no (sx_uf u.1 66 56 w, sx_ua u.2.1 105 n.toNat x6, Bs) m i := fun m i q => by
    unfold rf_no at q ⊢
    dsimp only
    rw [e50, a 100 (by decide), a 101 (by decide), a 102 (by decide), a 103 (by decide)]
    exact q
  have hA := rf_at_pos A
  have e : rf_at (rf_a A B) = rf_at A + rf_at B := rfl
  rcases a8 with ⟨b1, _⟩ | ⟨b1, b2, xx, ⟨c1, c2, c3, c4⟩, c5, c6⟩
  · omega
  have hrow : rf_rv (sx_uf u.1 66 56 w, sx_ua u.2.1 105 n.toNat x6, Bs) x1 ++ [] = vs ++ C.map Prod.snd := by
    obtain ⟨_, g2⟩ := rf_rp_up (rf_xu_refl u) c3 c4 c6
    rw [List.append_nil, ← a11.2.2.2 hk]
    unfold rf_rv
    dsimp only
    rw [a 104 (by decide), e56, show (w - u.2.1 104 x1.toNat).toNat = (u.1 66 56 - u.2.1 104 x1.toNat).toNat + 1 by omega]
    rw [rf_rl_s, rf_rl_eq (s := u) (fun q hq => by
      dsimp only
      rw [sx_ua_same]
      dsimp only
      rw [if_neg (by omega)])]
    dsimp only
    rw [sx_ua_same]
    dsimp only
    rw [if_pos (by omega)]
  refine ⟨C, f, hno _ _ a1, a2, a3, a4.imp id (fun q => ⟨q.1, hno _ _ q.2.1, q.2.2⟩), a5, fun j hj => ⟨(a6 j hj).1, (a6 j hj).2.1, by dsimp only; rw [e50]; exact (a6 j hj).2.2⟩, rf_ct_up hx a7, Or.inr ⟨hk, b2, ?_⟩, by omega, a10, ⟨fun q => absurd hk q, a11.2.1, a11.2.2.1, fun _ => hrow⟩⟩
  obtain ⟨g1, g2⟩ := rf_rp_up hx c3 c4 c6
  refine ⟨xx, ⟨?_, c2, ?_, ?_⟩, ?_, ?_⟩
  · have := (hx.2 0).1.2.2.2.2
    omega
  · dsimp only
    rw [a 104 (by decide)]
    exact c3
  · dsimp only
    exact Int.le_refl _
  · dsimp only
    rw [a 123 (by decide)]
    exact rf_is_up c5 hx.1
  · dsimp only
    rw [a 104 (by decide), e56]
    have hh := rf_rp_snoc (A := A) (B := B) (by
      dsimp only
      rw [sx_ua_same]
      dsimp only
      rw [if_pos (by rw [hn])]
      exact rf_vt_up hx hv) g1
    rw [← hw] at hh
    exact hh
/-- a head gets an ARG more -/
theorem rf_J_app {n : rf_N} {p : Int} {t' : sx_S} {x6 : Int} (h : rf_J x1 k f0 x u x3 x4 B (rf_a A B) i0 [x6] vs ib) (hlf : rf_lf n x6) (hsc : (rf_sc rf_G0 n).1 [x6]) (h3 : x3 ≠ -1) (hk : k.1 ≠ 3) (ha : rf_ag 100 103 (u.1 66 50) u t) (hx : rf_xu u t) (hn : rf_no t n p) (hnd : (rf_idx n).Nodup) (hlo : ∀ j ∈ rf_idx n, u.1 66 50 ≤ (j : Int)) (hnx : rf_nx n) (hty : (rf_gt (rf_H t) rf_P n).1 A) (hwh : (rf_wh n).1 + 1 ≤ 2 * rf_at A) (hoc : ∀ m, ¬ (rf_oc n).1 m) (h1 : t'.1 = t.1) (ht : ∀ f, rf_no t (.inner x1.toNat k () f .leaf) x1 → (f = .leaf ∧ t'.2.1 = sx_ua t.2.1 102 x1.toNat p) ∨ (f ≠ .leaf ∧ t'.2.1 = sx_ua t.2.1 103 (rf_last f 0) p)) : rf_J x1 k f0 x t' x3 x4 B B i0 [] vs ib := by
  obtain ⟨C, f, a1, a2, a3, a4, a5, a6, a7, a8, a9, a10, a11⟩ := h
  have hnn := (hx.2 0).1.2.2.1
  have b1 := rf_no_up ha hnn a1
  have hlt := rf_nd_lt a1
  have hC := ht f b1
  obtain ⟨d1, d2, d3, d4⟩ := rf_app_tr (lo := x1) (mid := u.1 66 50) (hi := t.1 66 50) (by rw [h1]) b1 a2 (fun j hj => ⟨a3 j hj, hlt j hj⟩) hn hnd (fun j hj => ⟨hlo j hj, rf_nd_lt hn j hj⟩) hnn hC
  have hxu : rf_xu t t' := by
    refine rf_xu_arr h1 (fun q hq => ?_)
    rcases hC with ⟨_, e⟩ | ⟨_, e⟩
    · rw [e]
      exact sx_ua_ne (by rcases hq with rfl | rfl | rfl | rfl | rfl | rfl | rfl <;> decide)
    · rw [e]
      exact sx_ua_ne (by rcases hq with rfl | rfl | rfl | rfl | rfl | rfl | rfl <;> decide)
  have hch : ∀ i, rf_no u (rf_ch C .leaf) i → rf_no t' (rf_ch C .leaf) i := fun i q => by
    have q2 := rf_no_up ha hnn q
    refine rf_nd_mono (Int.le_of_eq (by rw [h1])) (fun j hj => ?_) q2
    have hjC : j ∈ C.map Prod.fst := (rf_ch_idx.mp hj).elim id (fun z => absurd z List.not_mem_nil)
    have hjh := (a6 j hjC).1
    rcases hC with ⟨_, e⟩ | ⟨hf, e⟩
    · refine ⟨by rw [e, sx_ua_ne (by decide)], by rw [e, sx_ua_ne (by decide)], ?_, by rw [e, sx_ua_ne (by decide)]⟩
      rw [e, sx_ua_same]
      dsimp only
      rw [if_neg (fun z => hjh (by rw [z]; exact List.mem_cons_self))]
    · refine ⟨by rw [e, sx_ua_ne (by decide)], by rw [e, sx_ua_ne (by decide)], by rw [e, sx_ua_ne (by decide)], ?_⟩
      rw [e, sx_ua_same]
      dsimp only
      rw [if_neg (fun z => hjh (by rw [z]; exact List.mem_cons_of_mem _ (List.mem_append_left _ (rf_last_mem f 0 hf))))]
  have hxt := rf_xu_trans hxu hx
  have hlx := hlt x1.toNat List.mem_cons_self
  have a1' := a1
  obtain ⟨_, _, af, _⟩ := a1'
  have hA := rf_at_pos A
  have e : rf_at (rf_a A B) = rf_at A + rf_at B := rfl
  have hl := rf_ct_len a7
  have hC1 : 1 ≤ C.length := by
    rcases a4 with ⟨_, z⟩ | ⟨z, _⟩
    · exact absurd z h3
    · cases C with
      | nil => exact absurd rfl z
      | cons c l => exact Nat.succ_pos _
  rcases a8 with ⟨b1, w, b2, b3⟩ | ⟨b1, _⟩
  · refine ⟨C, rf_snoc f n, d1, d2, fun j hj => (d3 j hj).1, a4.imp id (fun q => ⟨q.1, hch _ q.2.1, q.2.2⟩), a5, fun j hj => ⟨fun z => ?_, (a6 j hj).2.1, ?_⟩, rf_ct_up hxt a7, Or.inl ⟨b1, w, rf_H_up hxt hlx b2, rf_gt_snoc ((rf_gt_up hxt af).2 _ _ b3) ?_⟩, ?_, fun m => ?_, ⟨fun q1 => by obtain ⟨us, g, e1, e2, e3, e4⟩ := a11.1 q1; exact ⟨us ++ [x6], rf_snoc g n, by rw [List.append_nil]; exact e1, by rw [e2, rf_snoc_assoc], rf_lf2_snoc hnx hlf e3, rf_sc_snoc ((rf_sc_mono (fun _ _ _ _ _ _ q => q.elim)).2 _ _ (fun v hv => List.mem_append_left _ hv) e4) (rf_sc_12 hnx ((rf_sc_mono (fun _ _ _ _ _ _ q => q.elim)).1 _ _ (fun v hv => List.mem_append_right _ hv) hsc))⟩, a11.2.1, a11.2.2.1, fun q => absurd q hk⟩⟩
    · have z2 : j = x1.toNat ∨ j ∈ rf_idx f ∨ j ∈ rf_idx n := by
        have z3 : j ∈ x1.toNat :: (rf_idx (rf_snoc f n) ++ []) := z
        rw [List.append_nil, List.mem_cons, rf_idx_snoc] at z3
        exact z3
      rcases z2 with z | z | z
      · exact (a6 j hj).1 (by rw [z]; exact List.mem_cons_self)
      · exact (a6 j hj).1 (List.mem_cons_of_mem _ (List.mem_append_left _ z))
      · have := hlo j z
        have := (a6 j hj).2.2
        omega
    · rw [h1]
      have := (a6 j hj).2.2
      omega
    · cases n with
      | leaf => exact hty.elim
      | inner nj nk nu nf nn =>
        have en : nn = .leaf := hnx
        subst en
        exact ⟨A, B, rfl, (rf_gt_up hxu hn).1 _ hty, rfl⟩
    · rw [rf_wh_snoc]
      have hw2 : (rf_wh n).2 = (rf_wh n).1 := by
        cases n with
        | leaf => exact hty.elim
        | inner nj nk nu nf nn =>
          have en : nn = .leaf := hnx
          subst en
          exact Nat.max_zero _
      rw [hw2]
      omega
    · rw [rf_oc_snoc, ← a10 m]
      constructor
      · rintro (z | z)
        · exact z
        · cases n with
          | leaf => exact z.elim
          | inner nj nk nu nf nn =>
            have en : nn = .leaf := hnx
            subst en
            rcases z with z | z
            · exact absurd z (hoc m)
            · exact z.elim
      · exact Or.inl
  · exact absurd b1 hk
end RFJ2
