/-! ===== feed of both, with the bytes ===== -/
/-- byte j of the words -/
def dz_wd (a0 a1 a2 a3 a4 : Int) (j : Nat) : Int := (if j < 4 then a0 else if j < 8 then a1 else if j < 12 then a2 else if j < 16 then a3 else a4)
def dz_FB (a0 a1 a2 a3 a4 : Int) (j : Nat) : Int := dz_sh dz_us (dz_wd a0 a1 a2 a3 a4 j) (24 - 8 * ((j % 4 : Nat) : Int))
/-- the tape, as far as it is the same and what is new -/
def dz_TP (c o : Nat) (g : Nat → Int) (s : sx_S) (m : Nat) (t : sx_S) : Prop := True → cx_I t ∧ t.1 o 1 = s.1 o 1 + (m : Int) ∧ (∀ k : Nat, (k : Int) < s.1 o 1 → t.2.1 c k = s.2.1 c k) ∧ (∀ j : Nat, j < m → t.2.1 c ((s.1 o 1).toNat + j) = g j) ∧ (∀ k : Nat, k ≠ 1 → t.1 o k = s.1 o k)
theorem c_dz_tw {sL : Nat} {sx : Nat → Int32} (hsL : sL ≤ 3072) (d : Nat) (hd : 2 ≤ d) : ∀ (a0 : Int) (s : sx_S) (R : Int → sx_S → Prop), cx_I s → (-2147483648 ≤ a0 ∧ a0 ≤ 2147483647) → s.1 0 1 + 4 ≤ 240 → (∀ t, cx_F [(0, 1)] s t → dz_TP 1 0 (fun j => dz_sh dz_us a0 (24 - 8 * (j : Int))) s 4 t → R 0 t) → sx_C sL sx d 148 [.inr (.inl 0), .inl a0] s R := by
  intro a0 s R hI ra hf hK
  have h1 := hI.fld 0 1 (by decide) rfl
  obtain ⟨d, rfl⟩ : ∃ e, d = e + 2 := ⟨d - 2, by omega⟩
  refine sx_methL (wr := true) (n := 400) (n' := 400) (stop := [(3, [0, 1, 2])]) (fun nn pc ls u => pc = 3 ∧ ∃ m : Nat, m ≤ 4 ∧ ls = [(0, .inr (.inl 0)), (1, .inl a0), (2, .inl (24 - 8 * (m : Int)))] ∧ cx_F [(0, 1)] s u ∧ dz_TP 1 0 (fun j => dz_sh dz_us a0 (24 - 8 * (j : Int))) s m u ∧ nn = 4 - m) hsL (e := eX11_takeWord) rfl ?_ ?_
  · exact w_tw ⟨_, rfl, 0, by omega, rfl, cx_F_refl _ _, fun _ => ⟨hI, by omega, fun _ _ => rfl, fun j hj => absurd hj (Nat.not_lt_zero _), fun _ _ => rfl⟩, rfl⟩
  · rintro nn pc ls u ⟨rfl, m, hm, rfl, uF, hU, rfl⟩
    obtain ⟨uI, u1, u2, u3, u4⟩ := hU trivial
    refine w_tw_3 uI ra (by omega) (by omega) (fun q => ?_) (fun q v hv rv => ?_)
    · obtain rfl : m = 4 := by omega
      exact hK u uF hU
    · refine ⟨4 - (m + 1), by omega, rfl, m + 1, by omega, by rw [show (24 - 8 * (m : Int) - 8) = 24 - 8 * ((m + 1 : Nat) : Int) by omega], cx_F_uf rfl (cx_F_ua rfl uF), fun _ => ⟨cx_I_uf rfl rfl (cx_I_ua rfl rfl uI rv.1 rv.2) (by omega) (by omega), ?_, fun k hk => ?_, fun j hj => ?_, fun k hk => ?_⟩, rfl⟩
      · show sx_uf u.1 0 1 (u.1 0 1 + 1) 0 1 = _
        rw [px_us]
        omega
      · show sx_ua u.2.1 1 (u.1 0 1).toNat v 1 k = _
        rw [sx_ua_if, if_pos rfl, if_neg (by omega)]
        exact u2 k hk
      · show sx_ua u.2.1 1 (u.1 0 1).toNat v 1 ((s.1 0 1).toNat + j) = _
        rw [sx_ua_if, if_pos rfl]
        by_cases q : j = m
        · rw [if_pos (by omega), hv, q]
        · rw [if_neg (by omega)]
          exact u3 j (by omega)
      · show sx_uf u.1 0 1 (u.1 0 1 + 1) 0 k = _
        rw [sx_uf_if, if_neg (by omega)]
        exact u4 k hk
/-- four bytes more -/
theorem dz_TP_4 {g g' : Nat → Int} {s t u : sx_S} {m : Nat} (h : dz_TP 1 0 g s m t) (hI : cx_I s) (h' : dz_TP 1 0 g' t 4 u) (hg : ∀ j, j < 4 → g' j = g (m + j)) : dz_TP 1 0 g s (m + 4) u := fun _ => by
  obtain ⟨a1, a2, a3, a4, a5⟩ := h trivial
  obtain ⟨b1, b2, b3, b4, b5⟩ := h' trivial
  have h1 := hI.fld 0 1 (by decide) rfl
  refine ⟨b1, by omega, fun k hk => (b3 k (by omega)).trans (a3 k hk), fun j hj => ?_, fun k hk => (b5 k hk).trans (a5 k hk)⟩
  by_cases q : j < m
  · rw [b3 _ (by omega)]
    exact a4 j q
  · have e : (s.1 0 1).toNat + j = (t.1 0 1).toNat + (j - m) := by omega
    rw [e, b4 (j - m) (by omega), hg (j - m) (by omega)]
    congr 1
    omega
theorem w_fd {CALL : sx_Ca} {sL : Nat} {sx : Nat → Int32} {Q : Nat → sx_L → sx_S → Prop} {R : Int → sx_S → Prop} {s : sx_S} {a0 a1 a2 a3 a4 : Int} {Z1 Z2 Z3 Z4 Z5 : sx_S → Prop} (hI : cx_I s) (hN : 240 < s.1 0 1 + 20 → R (-1) s) (h1 : s.1 0 1 + 20 ≤ 240 → ∀ K : Int → sx_S → Prop, (∀ t, Z1 t → K 0 t) → CALL 148 [.inr (.inl 0), .inl a0] s K) (h2 : ∀ t, Z1 t → ∀ K : Int → sx_S → Prop, (∀ u, Z2 u → K 0 u) → CALL 148 [.inr (.inl 0), .inl a1] t K) (h3 : ∀ t, Z2 t → ∀ K : Int → sx_S → Prop, (∀ u, Z3 u → K 0 u) → CALL 148 [.inr (.inl 0), .inl a2] t K) (h4 : ∀ t, Z3 t → ∀ K : Int → sx_S → Prop, (∀ u, Z4 u → K 0 u) → CALL 148 [.inr (.inl 0), .inl a3] t K) (h5 : ∀ t, Z4 t → ∀ K : Int → sx_S → Prop, (∀ u, Z5 u → K 0 u) → CALL 148 [.inr (.inl 0), .inl a4] t K) (hZ : ∀ t, Z5 t → cx_I t) (hK : ∀ t, Z5 t → R (t.1 0 1) t) : sx_wp true sL sx eX11_feed CALL [] Q R 400 0 (sx_argsF 0 [.inr (.inl 0), .inl a0, .inl a1, .inl a2, .inl a3, .inl a4]) [] s := by
  have h0 := hI.fld 0 1 (by decide) rfl
  have zzy : sx_w true (s.1 0 1 + 20) = s.1 0 1 + 20 := px_wid (by omega) (by omega)
  by_cases hx : s.1 0 1 + 20 ≤ 240
  · have h1' := h1 hx
    clear h1 hN
    repeat' (first | (with_reducible (rintro _ rfl)) | (with_reducible intro _) | (refine And.intro ?_ ?_) | (refine h1' _ ?_) | (refine h2 _ ?_ _ ?_) | (refine h3 _ ?_ _ ?_) | (refine h4 _ ?_ _ ?_) | (refine h5 _ ?_ _ ?_))
    all_goals (try dsimp only at *)
    all_goals (first | trivial | assumption | omega | (exfalso; omega) | (exact hZ _ (by assumption)) | (exact hK _ (by assumption)) | (rw [zzy]; omega) | skip)
  · have hN' := hN (by omega)
    clear h1 h2 h3 h4 h5 hN
    repeat' (first | (with_reducible (rintro _ rfl)) | (with_reducible intro _) | (refine And.intro ?_ ?_) | (fail))
    all_goals (try dsimp only at *)
    all_goals (first | trivial | assumption | omega | (exfalso; omega) | (rw [zzy]; omega) | skip)
theorem c_dz_feed {sL : Nat} {sx : Nat → Int32} (hsL : sL ≤ 3072) (d : Nat) (hd : 3 ≤ d) : ∀ (a0 a1 a2 a3 a4 : Int) (s : sx_S) (R : Int → sx_S → Prop), cx_I s → (-2147483648 ≤ a0 ∧ a0 ≤ 2147483647) → (-2147483648 ≤ a1 ∧ a1 ≤ 2147483647) → (-2147483648 ≤ a2 ∧ a2 ≤ 2147483647) → (-2147483648 ≤ a3 ∧ a3 ≤ 2147483647) → (-2147483648 ≤ a4 ∧ a4 ≤ 2147483647) → (240 < s.1 0 1 + 20 → R (-1) s) → (s.1 0 1 + 20 ≤ 240 → ∀ t, cx_F [(0, 1)] s t → dz_TP 1 0 (dz_FB a0 a1 a2 a3 a4) s 20 t → R (t.1 0 1) t) → sx_C sL sx d 137 [.inr (.inl 0), .inl a0, .inl a1, .inl a2, .inl a3, .inl a4] s R := by
  intro a0 a1 a2 a3 a4 s R hI r0 r1 r2 r3 r4 hN hK
  obtain ⟨d, rfl⟩ : ∃ e, d = e + 2 := ⟨d - 2, by omega⟩
  have hs : ∀ (w : Int) (m : Nat) (t : sx_S), m + 4 ≤ 20 → s.1 0 1 + 20 ≤ 240 → (-2147483648 ≤ w ∧ w ≤ 2147483647) → (∀ j : Nat, j < 4 → dz_sh dz_us w (24 - 8 * (j : Int)) = dz_FB a0 a1 a2 a3 a4 (m + j)) → cx_F [(0, 1)] s t → dz_TP 1 0 (dz_FB a0 a1 a2 a3 a4) s m t → ∀ K : Int → sx_S → Prop, (∀ u, (s.1 0 1 + 20 ≤ 240 ∧ cx_F [(0, 1)] s u ∧ dz_TP 1 0 (dz_FB a0 a1 a2 a3 a4) s (m + 4) u) → K 0 u) → sx_C sL sx (d + 1) 148 [.inr (.inl 0), .inl w] t K := fun w m t hm hx rw' hg tF tT K hK' => by
    obtain ⟨b1, b2, b3, b4, b5⟩ := tT trivial
    exact c_dz_tw hsL (d + 1) (by omega) w t K b1 rw' (by omega) (fun u uF uT => hK' u ⟨hx, cx_F_step uF rfl tF, dz_TP_4 tT hI uT hg⟩)
  have h0 : dz_TP 1 0 (dz_FB a0 a1 a2 a3 a4) s 0 s := fun _ => ⟨hI, by omega, fun _ _ => rfl, fun j hj => absurd hj (Nat.not_lt_zero _), fun _ _ => rfl⟩
  refine sx_meth (wr := true) (n := 400) hsL (e := eX11_feed) rfl (w_fd (Q := fun _ _ _ => False) (Z1 := fun t => s.1 0 1 + 20 ≤ 240 ∧ cx_F [(0, 1)] s t ∧ dz_TP 1 0 (dz_FB a0 a1 a2 a3 a4) s 4 t) (Z2 := fun t => s.1 0 1 + 20 ≤ 240 ∧ cx_F [(0, 1)] s t ∧ dz_TP 1 0 (dz_FB a0 a1 a2 a3 a4) s 8 t) (Z3 := fun t => s.1 0 1 + 20 ≤ 240 ∧ cx_F [(0, 1)] s t ∧ dz_TP 1 0 (dz_FB a0 a1 a2 a3 a4) s 12 t) (Z4 := fun t => s.1 0 1 + 20 ≤ 240 ∧ cx_F [(0, 1)] s t ∧ dz_TP 1 0 (dz_FB a0 a1 a2 a3 a4) s 16 t) (Z5 := fun t => s.1 0 1 + 20 ≤ 240 ∧ cx_F [(0, 1)] s t ∧ dz_TP 1 0 (dz_FB a0 a1 a2 a3 a4) s 20 t) hI hN ?_ ?_ ?_ ?_ ?_ (fun t h => (h.2.2 trivial).1) (fun t h => hK h.1 t h.2.1 h.2.2))
  · exact fun hx K hK' => hs a0 0 s (by omega) hx r0 (fun j hj => by match j, hj with | 0, _ => rfl | 1, _ => rfl | 2, _ => rfl | 3, _ => rfl | _ + 4, h4 => omega) (cx_F_refl _ _) h0 K hK'
  · exact fun t h K hK' => hs a1 4 t (by omega) h.1 r1 (fun j hj => by match j, hj with | 0, _ => rfl | 1, _ => rfl | 2, _ => rfl | 3, _ => rfl | _ + 4, h4 => omega) h.2.1 h.2.2 K hK'
  · exact fun t h K hK' => hs a2 8 t (by omega) h.1 r2 (fun j hj => by match j, hj with | 0, _ => rfl | 1, _ => rfl | 2, _ => rfl | 3, _ => rfl | _ + 4, h4 => omega) h.2.1 h.2.2 K hK'
  · exact fun t h K hK' => hs a3 12 t (by omega) h.1 r3 (fun j hj => by match j, hj with | 0, _ => rfl | 1, _ => rfl | 2, _ => rfl | 3, _ => rfl | _ + 4, h4 => omega) h.2.1 h.2.2 K hK'
  · exact fun t h K hK' => hs a4 16 t (by omega) h.1 r4 (fun j hj => by match j, hj with | 0, _ => rfl | 1, _ => rfl | 2, _ => rfl | 3, _ => rfl | _ + 4, h4 => omega) h.2.1 h.2.2 K hK'

theorem w_qf {CALL : sx_Ca} {sL : Nat} {sx : Nat → Int32} {Q : Nat → sx_L → sx_S → Prop} {R : Int → sx_S → Prop} {s : sx_S} {a0 a1 a2 a3 a4 : Int} (hI : cx_I s) (hN : 240 < s.1 66 1 + 20 → R (-1) s) (hQ : s.1 66 1 + 20 ≤ 240 → Q 18 [(0, .inr (.inl 66)), (1, .inl a0), (2, .inl a1), (3, .inl a2), (4, .inl a3), (5, .inl a4), (6, .inl 0)] s) : sx_wp true sL sx eX12_feed CALL [(18, [0, 1, 2, 3, 4, 5, 6])] Q R 400 0 (sx_argsF 0 [.inr (.inl 66), .inl a0, .inl a1, .inl a2, .inl a3, .inl a4]) [] s := by
  have h0 := hI.fld 66 1 (by decide) rfl
  have zzy : sx_w true (s.1 66 1 + 20) = s.1 66 1 + 20 := px_wid (by omega) (by omega)
  by_cases hx : s.1 66 1 + 20 ≤ 240
  · have hQ' := hQ hx
    clear hN
    repeat' (first | (with_reducible (rintro _ rfl)) | (with_reducible intro _) | (refine And.intro ?_ ?_) | (fail))
    all_goals (try dsimp only at *)
    all_goals (first | trivial | assumption | omega | (exfalso; omega) | (rw [zzy]; omega) | skip)
  · have hN' := hN (by omega)
    clear hQ
    repeat' (first | (with_reducible (rintro _ rfl)) | (with_reducible intro _) | (refine And.intro ?_ ?_) | (fail))
    all_goals (try dsimp only at *)
    all_goals (first | trivial | assumption | omega | (exfalso; omega) | (rw [zzy]; omega) | skip)
theorem w_qf_18e {CALL : sx_Ca} {sL : Nat} {sx : Nat → Int32} {Q : Nat → sx_L → sx_S → Prop} {R : Int → sx_S → Prop} {s : sx_S} {a0 a1 a2 a3 a4 : Int} (hI : cx_I s) (hK : R (s.1 66 1) s) : sx_wp true sL sx eX12_feed CALL [(18, [0, 1, 2, 3, 4, 5, 6])] Q R 400 18 [(0, .inr (.inl 66)), (1, .inl a0), (2, .inl a1), (3, .inl a2), (4, .inl a3), (5, .inl a4), (6, .inl 20)] [] s := by
  repeat' (first | (with_reducible (rintro _ rfl)) | (with_reducible intro _) | (refine And.intro ?_ ?_) | (fail))
  all_goals (try dsimp only at *)
  all_goals (first | trivial | assumption | omega | (exfalso; omega) | skip)
theorem w_qf_18 {CALL : sx_Ca} {sL : Nat} {sx : Nat → Int32} {Q : Nat → sx_L → sx_S → Prop} {R : Int → sx_S → Prop} {s : sx_S} {a0 a1 a2 a3 a4 x6 : Int} (hI : cx_I s) (r6 : 0 ≤ x6 ∧ x6 < 20) (r0 : -2147483648 ≤ a0 ∧ a0 ≤ 2147483647) (r1 : -2147483648 ≤ a1 ∧ a1 ≤ 2147483647) (r2 : -2147483648 ≤ a2 ∧ a2 ≤ 2147483647) (r3 : -2147483648 ≤ a3 ∧ a3 ≤ 2147483647) (r4 : -2147483648 ≤ a4 ∧ a4 ≤ 2147483647) (hf : s.1 66 1 < 240) (hQ : ∀ v, v = dz_sh dz_ss (dz_wd a0 a1 a2 a3 a4 x6.toNat) (24 - 8 * (x6 % 4)) → (0 ≤ v ∧ v ≤ 255) → Q 18 [(0, .inr (.inl 66)), (1, .inl a0), (2, .inl a1), (3, .inl a2), (4, .inl a3), (5, .inl a4), (6, .inl (x6 + 1))] (sx_uf s.1 66 1 (s.1 66 1 + 1), sx_ua s.2.1 67 (s.1 66 1).toNat v, s.2.2)) : sx_wp true sL sx eX12_feed CALL [(18, [0, 1, 2, 3, 4, 5, 6])] Q R 400 18 [(0, .inr (.inl 66)), (1, .inl a0), (2, .inl a1), (3, .inl a2), (4, .inl a3), (5, .inl a4), (6, .inl x6)] [] s := by
  have h0 := hI.fld 66 1 (by decide) rfl
  have zzy : sx_w true (s.1 66 1 + 1) = s.1 66 1 + 1 := px_wid (by omega) (by omega)
  have zzx : sx_w true (x6 + 1) = x6 + 1 := px_wid (by omega) (by omega)
  have zzr : sx_n (x6 - x6.tdiv 4 * 4) = x6 % 4 := by
    have e : x6.tdiv 4 = x6 / 4 := Int.tdiv_eq_ediv_of_nonneg r6.1
    unfold sx_n
    rw [e]
    omega
  have zzs : sx_w true (24 - sx_w true (8 * sx_n (x6 - x6.tdiv 4 * 4))) = 24 - 8 * (x6 % 4) := by
    rw [zzr, px_wid (z := 8 * (x6 % 4)) (by omega) (by omega), px_wid (by omega) (by omega)]
  rw [← zzy, ← zzx] at hQ
  have zzI : ∀ v : Int, 0 ≤ v → v ≤ 255 → cx_I (s.1, sx_ua s.2.1 67 (s.1 66 1).toNat v, s.2.2) := fun v a b => cx_I_ua rfl rfl hI a b
  have hQ' := hQ
  clear hQ
  have h5 : x6 < 4 ∨ (4 ≤ x6 ∧ x6 < 8) ∨ (8 ≤ x6 ∧ x6 < 12) ∨ (12 ≤ x6 ∧ x6 < 16) ∨ (16 ≤ x6 ∧ x6 < 20) := by omega
  rcases h5 with h5 | h5 | h5 | h5 | h5
  · have ew : dz_wd a0 a1 a2 a3 a4 x6.toNat = a0 := by
      unfold dz_wd
      rw [if_pos (by omega)]
    rw [ew] at hQ'
    repeat' (first | (with_reducible (rintro _ rfl)) | (with_reducible intro _) | (refine And.intro ?_ ?_) | (fail))
    all_goals (try dsimp only at *)
    all_goals (first | trivial | assumption | omega | (exfalso; omega) | (refine zzI _ ?_ ?_ <;> omega) | (refine hQ' _ ?_ ?_ <;> first | (rw [zzs]; rfl) | assumption | omega) | skip)
  · have ew : dz_wd a0 a1 a2 a3 a4 x6.toNat = a1 := by
      unfold dz_wd
      rw [if_neg (by omega), if_pos (by omega)]
    rw [ew] at hQ'
    repeat' (first | (with_reducible (rintro _ rfl)) | (with_reducible intro _) | (refine And.intro ?_ ?_) | (fail))
    all_goals (try dsimp only at *)
    all_goals (first | trivial | assumption | omega | (exfalso; omega) | (refine zzI _ ?_ ?_ <;> omega) | (refine hQ' _ ?_ ?_ <;> first | (rw [zzs]; rfl) | assumption | omega) | skip)
  · have ew : dz_wd a0 a1 a2 a3 a4 x6.toNat = a2 := by
      unfold dz_wd
      rw [if_neg (by omega), if_neg (by omega), if_pos (by omega)]
    rw [ew] at hQ'
    repeat' (first | (with_reducible (rintro _ rfl)) | (with_reducible intro _) | (refine And.intro ?_ ?_) | (fail))
    all_goals (try dsimp only at *)
    all_goals (first | trivial | assumption | omega | (exfalso; omega) | (refine zzI _ ?_ ?_ <;> omega) | (refine hQ' _ ?_ ?_ <;> first | (rw [zzs]; rfl) | assumption | omega) | skip)
  · have ew : dz_wd a0 a1 a2 a3 a4 x6.toNat = a3 := by
      unfold dz_wd
      rw [if_neg (by omega), if_neg (by omega), if_neg (by omega), if_pos (by omega)]
    rw [ew] at hQ'
    repeat' (first | (with_reducible (rintro _ rfl)) | (with_reducible intro _) | (refine And.intro ?_ ?_) | (fail))
    all_goals (try dsimp only at *)
    all_goals (first | trivial | assumption | omega | (exfalso; omega) | (refine zzI _ ?_ ?_ <;> omega) | (refine hQ' _ ?_ ?_ <;> first | (rw [zzs]; rfl) | assumption | omega) | skip)
  · have ew : dz_wd a0 a1 a2 a3 a4 x6.toNat = a4 := by
      unfold dz_wd
      rw [if_neg (by omega), if_neg (by omega), if_neg (by omega), if_neg (by omega)]
    rw [ew] at hQ'
    repeat' (first | (with_reducible (rintro _ rfl)) | (with_reducible intro _) | (refine And.intro ?_ ?_) | (fail))
    all_goals (try dsimp only at *)
    all_goals (first | trivial | assumption | omega | (exfalso; omega) | (refine zzI _ ?_ ?_ <;> omega) | (refine hQ' _ ?_ ?_ <;> first | (rw [zzs]; rfl) | assumption | omega) | skip)
theorem c_q_feed {sL : Nat} {sx : Nat → Int32} (hsL : sL ≤ 3072) (d : Nat) (hd : 2 ≤ d) : ∀ (a0 a1 a2 a3 a4 : Int) (s : sx_S) (R : Int → sx_S → Prop), cx_I s → (-2147483648 ≤ a0 ∧ a0 ≤ 2147483647) → (-2147483648 ≤ a1 ∧ a1 ≤ 2147483647) → (-2147483648 ≤ a2 ∧ a2 ≤ 2147483647) → (-2147483648 ≤ a3 ∧ a3 ≤ 2147483647) → (-2147483648 ≤ a4 ∧ a4 ≤ 2147483647) → (240 < s.1 66 1 + 20 → R (-1) s) → (s.1 66 1 + 20 ≤ 240 → ∀ t, cx_F [(66, 67)] s t → rf_f [1] s t → dz_TP 67 66 (dz_FB a0 a1 a2 a3 a4) s 20 t → R (t.1 66 1) t) → sx_C sL sx d 150 [.inr (.inl 66), .inl a0, .inl a1, .inl a2, .inl a3, .inl a4] s R := by
  intro a0 a1 a2 a3 a4 s R hI r0 r1 r2 r3 r4 hN hK
  obtain ⟨d, rfl⟩ : ∃ e, d = e + 2 := ⟨d - 2, by omega⟩
  have h1 := hI.fld 66 1 (by decide) rfl
  refine sx_methL (wr := true) (n := 400) (n' := 400) (stop := [(18, [0, 1, 2, 3, 4, 5, 6])]) (fun nn pc ls u => pc = 18 ∧ s.1 66 1 + 20 ≤ 240 ∧ ∃ m : Nat, m ≤ 20 ∧ ls = [(0, .inr (.inl 66)), (1, .inl a0), (2, .inl a1), (3, .inl a2), (4, .inl a3), (5, .inl a4), (6, .inl (m : Int))] ∧ cx_F [(66, 67)] s u ∧ rf_f [1] s u ∧ dz_TP 67 66 (dz_FB a0 a1 a2 a3 a4) s m u ∧ nn = 20 - m) hsL (e := eX12_feed) rfl ?_ ?_
  · exact w_qf hI hN (fun hx => ⟨_, rfl, hx, 0, by omega, rfl, cx_F_refl _ _, fun _ _ => rfl, fun _ => ⟨hI, by omega, fun _ _ => rfl, fun j hj => absurd hj (Nat.not_lt_zero _), fun _ _ => rfl⟩, rfl⟩)
  · rintro nn pc ls u ⟨rfl, hx, m, hm, rfl, uF, uf, hU, rfl⟩
    obtain ⟨uI, u1, u2, u3, u4⟩ := hU trivial
    by_cases h20 : m = 20
    · subst h20
      exact w_qf_18e uI (hK hx u uF uf hU)
    · refine w_qf_18 uI (by omega) r0 r1 r2 r3 r4 (by omega) (fun v hv rv => ?_)
      refine ⟨20 - (m + 1), by omega, rfl, hx, m + 1, by omega, by rw [show (m : Int) + 1 = ((m + 1 : Nat) : Int) by omega], cx_F_uf rfl (cx_F_ua rfl uF), ?_, fun _ => ⟨cx_I_uf rfl rfl (cx_I_ua rfl rfl uI rv.1 rv.2) (by omega) (by omega), ?_, fun k hk => ?_, fun j hj => ?_, fun k hk => ?_⟩, rfl⟩
      · exact rf_f_uf rfl (rf_f_ua uf)
      · show sx_uf u.1 66 1 (u.1 66 1 + 1) 66 1 = _
        rw [px_us]
        omega
      · show sx_ua u.2.1 67 (u.1 66 1).toNat v 67 k = _
        rw [sx_ua_if, if_pos rfl, if_neg (by omega)]
        exact u2 k hk
      · show sx_ua u.2.1 67 (u.1 66 1).toNat v 67 ((s.1 66 1).toNat + j) = _
        rw [sx_ua_if, if_pos rfl]
        by_cases q : j = m
        · rw [if_pos (by omega), hv, q, Int.toNat_natCast]
          unfold dz_FB
          rw [dz_byte (by omega), show ((m % 4 : Nat) : Int) = (m : Int) % 4 by omega]
        · rw [if_neg (by omega)]
          exact u3 j (by omega)
      · show sx_uf u.1 66 1 (u.1 66 1 + 1) 66 k = _
        rw [sx_uf_if, if_neg (by omega)]
        exact u4 k hk
