/-! ===== given unknowns are gone through: what comes of it ===== -/
theorem vx_ls_1 {n : Nat} {w : List Int} (h1 : w.Nodup) (h2 : ∀ x ∈ w, 0 ≤ x ∧ x < (n : Int)) : w.length ≤ n := by
  have a := vx_ls_sm (f := fun _ => 1) h1 h2
  have b : vx_ls (fun _ => 1) w = w.length := by
    clear h1 h2 a
    induction w with
    | nil => rfl
    | cons x l ih =>
      show 1 + vx_ls (fun _ => 1) l = l.length + 1
      omega
  have c : vx_sm (fun _ => 1) n = n := by
    clear a b h2
    induction n with
    | zero => rfl
    | succ n ih =>
      rw [vx_sm_s, ih]
  omega
theorem dv_nf_F {s u : sx_S} {AR : Nat → List Int} {W : List (Nat × Nat)} (n : Int) (h : cx_F W s u) (hw : cx_outb W 11 = true ∧ cx_outb W 12 = true ∧ cx_outb W 13 = true ∧ cx_outb W 14 = true ∧ cx_outb W 15 = true ∧ cx_outb W 16 = true) : dv_nf n AR AR s u := fun _ => ⟨fun _ => ⟨by rw [(h.same 11 hw.1).1]; exact Int.le_refl _, fun j _ => by
  rw [(h.same 12 hw.2.1).2, (h.same 13 hw.2.2.1).2, (h.same 14 hw.2.2.2.1).2, (h.same 15 hw.2.2.2.2.1).2, (h.same 16 hw.2.2.2.2.2).2]
  exact ⟨rfl, rfl, rfl, rfl, rfl⟩⟩, fun _ _ => rfl⟩
theorem c_dv_sl {tv tc : Int → rf_T} {tm : Int → Int → rf_T} {sL : Nat} {sx : Nat → Int32} (hsL : sL ≤ 3072) (d : Nat) (hd : 4 ≤ d) : ∀ (S : vx_S) (PR : Int → List (Int × Int)) (lt : Int → rf_T) (L : Int) (t : rf_T) (A : rf_N) (c : List (Int × Int)) (Cp : rf_N → Int → Prop) (a0 a1 : Int) (s : sx_S) (K : Int → sx_S → Prop), cx_I s → dv_M s S PR → vx_TS tv tc tm S PR → vx_CT S → dv_at s S.2.2.2.2 A a0 → dv_c s c (s.1 29 3) a1 → vx_sd tv tc tm S lt L t A c → Cp A (s.1 29 3) → (∀ (j : Nat) (m : Int) (F X : rf_N) (e : Int → Int) (u u' : Int), Cp (rf_n j 3 m F .leaf) u → vx_sg X → S.2.2.2.1 m = some (X, e) → u' ≤ u + (vx_aa S m : Int) → Cp X u') → (∀ A u, Cp A u → u ≤ 904) → (∀ u A' c', cx_I u → cx_F [(29, 33)] s u → dv_lf s u → (∀ k, k ≠ 7 → k ≠ 8 → u.1 33 k = s.1 33 k) → dv_at u S.2.2.2.2 A' (u.1 33 7) → dv_c u c' (u.1 29 3) (u.1 33 8) → vx_sd tv tc tm S lt L t A' c' → Cp A' (u.1 29 3) → (∀ th, vx_So S th → vx_val th S.2.2.2.2 A (dv_lk c) L = vx_val th S.2.2.2.2 A' (dv_lk c') L) → (∀ (j : Nat) (m : Int) (F : rf_N), A' = rf_n j 3 m F .leaf → S.2.2.2.1 m = none) → K 0 u) → sx_C sL sx d 5 [.inr (.inl 33), .inl a0, .inl a1] s K := by
  intro S PR lt L t A c Cp a0 a1 s K hI hM hT hC hA hc hsd hcp hstep hbd hK
  obtain ⟨⟨W, B1, Sc, rk, hrk⟩, TS⟩ := hT trivial
  obtain ⟨c0, _, _, _, c4, c5, _⟩ := hC trivial
  obtain ⟨⟨M1, M2, M3, _⟩, M4⟩ := hM trivial
  refine c_dv_set hsL d hd a0 a1 s K (fun n z k u => ∃ A' c' w, cx_I u ∧ cx_F [(29, 33)] s u ∧ dv_lf s u ∧ (∀ k, k ≠ 7 → k ≠ 8 → u.1 33 k = s.1 33 k) ∧ dv_at u S.2.2.2.2 A' z ∧ dv_c u c' (u.1 29 3) k ∧ vx_sd tv tc tm S lt L t A' c' ∧ Cp A' (u.1 29 3) ∧ (∀ th, vx_So S th → vx_val th S.2.2.2.2 A (dv_lk c) L = vx_val th S.2.2.2.2 A' (dv_lk c') L) ∧ vx_wu S w A' ∧ w.length + n = 32) ⟨A, c, [], hI, cx_F_refl _ _, dv_lf_refl s, fun _ _ _ => rfl, hA, hc, hsd, hcp, fun _ _ => rfl, vx_wu_nil S A, rfl⟩ ?_ ?_ ?_ ?_
  · rintro n z k u ⟨A', c', w, i1, i2, i3, i4, i5, i6, _⟩
    have h29 := i1.fld 29 3 (by decide) rfl
    have r := dv_ch_rng i6
    exact ⟨i1, dv_at_z i5, by omega, by omega⟩
  · rintro n z k u v w ⟨A', c', ww, i1, i2, i3, i4, i5, i6, i7⟩ hv hw
    have nf : ∀ F : Nat → Nat → Int, F 11 = u.1 11 → dv_nf (u.1 11 6) S.2.2.2.2 S.2.2.2.2 u (F, u.2) := fun F hF => fun _ => ⟨fun _ => ⟨by show u.1 11 6 ≤ F 11 6; rw [hF]; exact Int.le_refl _, fun j _ => ⟨rfl, rfl, rfl, rfl, rfl⟩⟩, fun _ _ => rfl⟩
    refine ⟨⟨A', c', ww, cx_I_uf rfl rfl (cx_I_uf rfl rfl i1 (by omega) (by omega)) (by omega) (by omega), cx_F_uf rfl (cx_F_uf rfl i2), fun _ => i3 trivial, fun k h7 h8 => ?_, dv_at_fr (Int.le_refl _) (nf _ rfl) i5, i6, i7⟩, ⟨A', c', ww, cx_I_uf rfl rfl (cx_I_uf rfl rfl i1 (by omega) (by omega)) (by omega) (by omega), cx_F_uf rfl (cx_F_uf rfl i2), fun _ => i3 trivial, fun k h7 h8 => ?_, dv_at_fr (Int.le_refl _) (nf _ rfl) i5, i6, i7⟩⟩
    · show sx_uf (sx_uf u.1 33 7 v) 33 8 w 33 k = _
      rw [sx_uf_if, if_neg (by omega), sx_uf_if, if_neg (by omega)]
      exact i4 k h7 h8
    · show sx_uf (sx_uf u.1 33 8 v) 33 7 w 33 k = _
      rw [sx_uf_if, if_neg (by omega), sx_uf_if, if_neg (by omega)]
      exact i4 k h7 h8
  · rintro n z k u ⟨A', c', w, i1, i2, i3, i4, i5, i6, i7, i8, i9, i10, i11⟩ hk
    obtain ⟨⟨b1, ⟨j, kk, m, F, rfl⟩, b3⟩, b4⟩ := i7 trivial
    have hd' := dv_at_hd i5
    obtain ⟨q1, q2, q3, q4, q5, q6, q7, q8, q9, q10⟩ := hd'
    obtain rfl : kk = 3 := by rw [← q3]; exact hk
    obtain ⟨q11, q12⟩ := q7 (by decide)
    obtain ⟨q13, q14, q15⟩ := q10 rfl
    obtain ⟨m0, m1⟩ := b1.1 m (Or.inl ⟨rfl, rfl⟩)
    have h6 : u.1 33 6 = S.1 := by rw [i4 6 (by decide) (by decide)]; exact M1
    have e34 : u.2.1 34 = s.2.1 34 := (i2.same 34 rfl).2
    rw [q4]
    refine ⟨⟨m0, by rw [h6]; exact m1⟩, fun hb => ?_⟩
    rw [e34] at hb ⊢
    obtain ⟨am, bm⟩ := M4 m m0 m1
    rcases bm with ⟨_, bm⟩ | ⟨B, bm1, bm2, bm3, bm4, bm5, bm6⟩
    · omega
    · obtain ⟨nd1, nd2⟩ := vx_wu_nd hrk W i10
      have wl := vx_ls_1 (n := S.1.toNat) nd1 (fun x hx => by have := nd2 x hx; omega)
      obtain ⟨n', rfl⟩ : ∃ n', n = n' + 1 := ⟨n - 1, by omega⟩
      refine ⟨n', rfl, fun G hG => ?_⟩
      have hl := vx_in_len b1
      have lF : (S.2.2.2.2 j).length = rf_len F := by rw [q13, dz_hs_len]
      have u904 := hbd _ _ i8
      have P1 := (bm3 trivial).2.1
      have hPl : ((PR m).length : Int) ≤ (vx_aa S m : Int) := by
        have n1 : ((PR m).map Prod.snd).length ≤ (S.2.2.1 m).toNat := vx_ls_1 bm6 (fun x hx => by
          obtain ⟨q, hq1, hq2⟩ := List.mem_map.mp hx
          have := bm4 q hq1
          rw [← hq2]
          omega)
        rw [List.length_map] at n1
        unfold vx_aa
        omega
      refine c_dv_ins hsL (d - 1) (by omega) z k (u.1 29 3) m F (PR m) c' u G i1 (dv_at_z i5) ⟨q4, m0, by omega⟩ q6 ?_ (fun q hq => by have := bm4 q hq; omega) (by omega) i6 (Int.le_refl _) (by omega) (fun k' v v1 v2 v3 v4 v5 => hG k' v ?_)
      · intro _
        rw [(i2.same 35 rfl).2, (i2.same 36 rfl).2, (i2.same 37 rfl).2]
        exact bm3 trivial
      · have hB : vx_sg B := by
          obtain ⟨a, b, cc, dd, ee, _⟩ := bm2
          exact ⟨a, b, cc, dd, ee⟩
        have hbs : S.2.2.2.1 m = some (B, dv_lk (PR m).reverse) := bm1
        obtain ⟨x1, x2, x3⟩ := dv_in_lk (c := c') (P := PR m) (hs := S.2.2.2.2 j) bm5 (fun q hq => by have := bm4 q hq; omega)
        refine ⟨B, dv_in (PR m) (dz_hs F) c', m :: w, v1, cx_F_step v2 rfl i2, dv_lf_t i3 v3, fun k h7 h8 => ?_, ?_, v5, ?_, ?_, fun th hS => ?_, vx_wu_in (A := rf_n j 3 m F .leaf) hbs (Or.inl ⟨rfl, rfl⟩) i10, by rw [List.length_cons]; omega⟩
        · rw [(v2.same 33 rfl).1]
          exact i4 k h7 h8
        · have f1 : dv_nf (s.1 11 6) S.2.2.2.2 S.2.2.2.2 s v := dv_nf_F _ (cx_F_step v2 rfl i2) (by decide)
          exact dv_at_fr (Int.le_refl _) f1 bm2
        · rw [← q13]
          exact vx_sd_body hT hbs q14 i7
        · exact hstep j m F B _ (u.1 29 3) (v.1 29 3) i8 hB hbs (by omega)
        · rw [i9 th hS, ← q13]
          exact vx_call_body hS hbs hl (fun z => by have := x3 z; omega) x1
  · rintro n z k u ⟨A', c', w, i1, i2, i3, i4, i5, i6, i7, i8, i9, i10, i11⟩ e7 e8 hn
    subst e7
    subst e8
    refine hK u A' c' i1 i2 i3 i4 i5 i6 i7 i8 i9 (fun j m F e => ?_)
    subst e
    have hd' := dv_at_hd i5
    obtain ⟨b1, _⟩ := (i7 trivial).1
    obtain ⟨m0, m1⟩ := b1.1 m (Or.inl ⟨rfl, rfl⟩)
    have hb := hn hd'.2.2.1
    rw [hd'.2.2.2.1, (i2.same 34 rfl).2] at hb
    obtain ⟨_, bm⟩ := M4 m m0 m1
    rcases bm with ⟨bm, _⟩ | ⟨B, bm1, bm2, _⟩
    · exact bm
    · have := dv_at_z bm2
      omega
