section
/-! ===== the desk's size, letter, side, sideLetter, exactly ===== -/
theorem wk_T_mk {tv tc : Int → rf_T} {tm : Int → Int → rf_T} {S : vx_S} {th : Int → rf_N} {nC nC' : Int} {bs : Nat} {a : List (Int × List Int)} {i : Nat} {A : rf_N} {c : List (Int × Int)} {L mk : Int} (e : nC' = nC) (h : wk_T tv tc tm S th nC bs a i A c L mk) : wk_T tv tc tm S th nC' bs a i A c L mk := by
  rw [e]
  exact h
/-- writing leaves what the desk holds -/
theorem wk_D_st {b : Nat → Int} {n : Int} {l : List vl_I} {tv tc : Int → rf_T} {n0 : Int} {Qs : (Int → rf_N) → Prop} {th : Int → rf_N} {rk : Int → Nat} {nm : Int → List Int} {s t : sx_S} {S : vx_S} {PR : Int → List (Int × Int)} {tm : Int → Int → rf_T} {TV : Int → qx_T → Prop} {AR : Nat → List Int} {tl : vw_L} (z1 : wy_Z b n l TV AR tl S th (wk_ht tm) nm) (z2 : wk_X tv tc n0 Qs th rk nm s S PR tm (wz_al th (vl_mf l []).length)) (z4 : s.1 22 2 = ((vl_mf l []).length : Int) ∧ ∀ (k : Nat) p, (vl_mf l [])[k]? = some p → ∃ A, dv_at s S.2.2.2.2 A (s.2.1 25 k) ∧ wk_T tv tc tm S th (s.1 19 2) 0 (wz_al th (vl_mf l []).length) 0 A [] 0 0 ∧ wd_v th S.2.2.2.2 (A, dv_lk [], 0) = vq_lm (rf_args (qx_sh p.2)).length (th (k : Int))) (z5 : s.1 18 10 = (tl.length : Int) ∧ ∀ (k : Nat) A B, tl[k]? = some (A, B) → (dv_at s S.2.2.2.2 A (s.2.1 26 (2 * k)) ∧ wk_T tv tc tm S th (s.1 19 2) 0 (wz_al th (vl_mf l []).length) 0 A [] 0 0 ∧ wd_v th S.2.2.2.2 (A, dv_lk [], 0) = vx_val th AR A (dv_lk []) 0) ∧ dv_at s S.2.2.2.2 B (s.2.1 26 (2 * k + 1)) ∧ wk_T tv tc tm S th (s.1 19 2) 0 (wz_al th (vl_mf l []).length) 0 B [] 0 0 ∧ wd_v th S.2.2.2.2 (B, dv_lk [], 0) = vx_val th AR B (dv_lk []) 0) (hI : cx_I t) (hf : wk_fw s t) (z3 : wk_ink (wk_E nm (wk_ht tm)) th S (wz_al th (vl_mf l []).length) t) : wk_D b n l t := fun _ => by
  have hF := (hf trivial).1
  have nf : dv_nf (s.1 11 6) S.2.2.2.2 S.2.2.2.2 s t := dv_nf_F _ hF (by decide)
  have e19 : t.1 19 2 = s.1 19 2 := by rw [(hF.same 19 rfl).1]
  refine ⟨tv, tc, n0, Qs, th, rk, nm, S, PR, tm, TV, AR, tl, z1, wk_X_fw z2 hI hf, z3, ⟨by rw [(hF.same 22 rfl).1]; exact z4.1, fun k p hp => ?_⟩, by rw [(hF.same 18 rfl).1]; exact z5.1, fun k A B hk => ?_⟩
  · obtain ⟨A, a1, a2, a3⟩ := z4.2 k p hp
    exact ⟨A, by rw [(hF.same 25 rfl).2]; exact dv_at_fr (Int.le_refl _) nf a1, wk_T_mk e19 a2, a3⟩
  · obtain ⟨⟨a1, a2, a5⟩, a3, a4, a6⟩ := z5.2 k A B hk
    rw [(hF.same 26 rfl).2]
    exact ⟨⟨dv_at_fr (Int.le_refl _) nf a1, wk_T_mk e19 a2, a5⟩, dv_at_fr (Int.le_refl _) nf a3, wk_T_mk e19 a4, a6⟩
/-- other calls leave it too -/
theorem wk_D_F {b : Nat → Int} {n : Int} {l : List vl_I} {s t : sx_S} {V : List (Nat × Nat)} (hI : cx_I t) (hF : cx_F V s t) (hV : cx_le V [(0, 1), (66, 124)] = true) (h : wk_D b n l s) : wk_D b n l t := fun _ => by
  obtain ⟨tv, tc, n0, Qs, th, rk, nm, S, PR, tm, TV, AR, tl, z1, z2, z3, z4, z5⟩ := h trivial
  have hF1 : cx_F [(0, 1), (66, 124)] s t := cx_F_step hF hV (cx_F_refl _ _)
  have nf : dv_nf (s.1 11 6) S.2.2.2.2 S.2.2.2.2 s t := dv_nf_F _ hF1 (by decide)
  obtain ⟨hG, hN, hS, hB, hnm, hty, htc⟩ := z2 trivial
  obtain ⟨g1, g2, g3, g4, ⟨_, g6⟩, g7, g8⟩ := hG trivial
  have e19 : t.1 19 = s.1 19 := (hF1.same 19 rfl).1
  have e19' : t.1 19 2 = s.1 19 2 := by rw [e19]
  have e11 : t.1 11 = s.1 11 := (hF1.same 11 rfl).1
  have e17 : t.2.1 17 = s.2.1 17 := (hF1.same 17 rfl).2
  have e55 : t.1 55 = s.1 55 := (hF1.same 55 rfl).1
  have e56 : t.1 56 = s.1 56 := (hF1.same 56 rfl).1
  have e65 : t.2.1 65 = s.2.1 65 := (hF1.same 65 rfl).2
  refine ⟨tv, tc, n0, Qs, th, rk, nm, S, PR, tm, TV, AR, tl, z1, fun _ => ⟨fun _ => ⟨hI, dv_M_fr (Int.le_refl _) (by rw [e11]) nf (by rw [(hF1.same 33 rfl).1]) (hF1.same 34 rfl).2 (hF1.same 35 rfl).2 (hF1.same 36 rfl).2 (hF1.same 37 rfl).2 g2, g3, g4, ⟨trivial, by rw [(hF1.same 39 rfl).1]; exact g6⟩, g7, g8⟩, wd_N_same (by rw [e55]) (hF1.same 63 rfl).2 (hF1.same 64 rfl).2 hN, hS, by rw [e19]; exact hB, fun x x0 x1 => ?_, fun v hv => ?_, htc⟩, fun _ => ?_, ⟨by rw [(hF1.same 22 rfl).1]; exact z4.1, fun k p hp => ?_⟩, by rw [(hF1.same 18 rfl).1]; exact z5.1, fun k A B hk => ?_⟩
  · obtain ⟨n1, n2⟩ := hnm x x0 (by omega)
    obtain ⟨d1, d2⟩ := wk_Nm_fr e19 (hF1.same 20 rfl).2 (hF1.same 2 rfl).1 (hF1.same 3 rfl).2 (hF1.same 5 rfl).2 (hF1.same 6 rfl).2 n1
    exact ⟨d1, by rw [d2]; exact n2⟩
  · obtain ⟨v1, v2⟩ := hty v hv
    rw [e11, e17]
    exact ⟨v1, wk_ty_c (by rw [(hF1.same 8 rfl).1]) (hF1.same 9 rfl).2 (hF1.same 10 rfl).2 v2⟩
  · have z3' := z3 trivial
    rw [e55, e56]
    rcases z3' with q | ⟨A, a1, a2⟩
    · exact Or.inl q
    · refine Or.inr ⟨A, dv_at_fr (Int.le_refl _) nf a1, ?_⟩
      rcases a2 with ⟨c1, c2, c3⟩ | c
      · exact Or.inl ⟨c1, wk_Dp_c (by rw [e55]) e65 c2, c3⟩
      · exact Or.inr c
  · obtain ⟨A, a1, a2, a3⟩ := z4.2 k p hp
    exact ⟨A, by rw [(hF1.same 25 rfl).2]; exact dv_at_fr (Int.le_refl _) nf a1, wk_T_mk e19' a2, a3⟩
  · obtain ⟨⟨a1, a2, a5⟩, a3, a4, a6⟩ := z5.2 k A B hk
    rw [(hF1.same 26 rfl).2]
    exact ⟨⟨dv_at_fr (Int.le_refl _) nf a1, wk_T_mk e19' a2, a5⟩, dv_at_fr (Int.le_refl _) nf a3, wk_T_mk e19' a4, a6⟩
/-- the number of bytes that is answered for a text o -/
def wy_sz (o : List Int) : Int := if o.length ≤ 4000 then (o.length : Int) else -1
/-- the byte that is answered -/
def wy_by (o : List Int) (i : Int) : Int := if o.length ≤ 4000 ∧ 0 ≤ i ∧ i < (o.length : Int) then o.getD i.toNat (-1) else -1
/-- o is what is written of the unknown k -/
def wy_O (b : Nat → Int) (n : Int) (l : List vl_I) (k : Int) (o : List Int) : Prop := True → ∃ (TV : Int → qx_T → Prop) (AR : Nat → List Int) (tl : vw_L) (S : vx_S) (th : Int → rf_N) (ht : Int → List rf_T) (nm : Int → List Int) (p : Int × qx_T), wy_Z b n l TV AR tl S th ht nm ∧ (vl_mf l [])[k.toNat]? = some p ∧ o = wy_o l th ht nm p k.toNat
theorem wy_O_fun {b : Nat → Int} {n : Int} {l : List vl_I} {k : Int} {o o' : List Int} (h : wy_O b n l k o) (h' : wy_O b n l k o') : o = o' := by
  obtain ⟨TV, AR, tl, S, th, ht, nm, p, a1, a2, a3⟩ := h trivial
  obtain ⟨TV', AR', tl', S', th', ht', nm', p', b1, b2, b3⟩ := h' trivial
  rw [a2] at b2
  have ep : p = p' := Option.some.inj b2
  subst ep
  rw [a3, b3]
  exact wy_Z_o a1 b1 a2
theorem wk_Dp_at {t : sx_S} {o : List Int} (h : wb_Dp t o) {i : Int} (i0 : 0 ≤ i) (i1 : i < (o.length : Int)) (i4 : i < 4000) : t.2.1 65 i.toNat = o.getD i.toNat (-1) := by
  have h1 := h.2 i.toNat (by omega) (by omega)
  rw [List.getD_eq_getElem?_getD, h1]
  rfl
/-- what write answers for one of the roots -/
theorem c_K_root {b : Nat → Int} {n : Int} {l : List vl_I} {sL : Nat} {sx : Nat → Int32} (hsL : sL ≤ 3072) (d : Nat) (hd : 22 ≤ d) : ∀ (z : Int) (s : sx_S) (K : Int → sx_S → Prop) (PO : List Int → Prop), wk_D b n l s → ((∃ k : Nat, k < (vl_mf l []).length ∧ z = s.2.1 25 k ∧ ∀ o, wy_O b n l (k : Int) o → PO o) ∨ (∃ (k : Nat) (si : Int), (k : Int) < s.1 18 10 ∧ ((si = 0 ∧ z = s.2.1 26 (2 * k)) ∨ (si ≠ 0 ∧ z = s.2.1 26 (2 * k + 1))) ∧ ∀ o, wy_Os b n l (k : Int) si o → PO o)) → (∀ zz t o, cx_I t → wk_fw s t → wk_D b n l t → PO o → zz = wy_sz o → (o.length ≤ 4000 → wb_Dp t o) → K zz t) → sx_C sL sx d 123 [.inr (.inl 55), .inl z] s K := by
  intro z s K PO hD hz hK
  obtain ⟨tv, tc, n0, Qs, th, rk, nm, S, PR, tm, TV, AR, tl, z1, z2, z3, z4, z5⟩ := hD trivial
  have key : ∀ A, dv_at s S.2.2.2.2 A z → wk_T tv tc tm S th (s.1 19 2) 0 (wz_al th (vl_mf l []).length) 0 A [] 0 0 → PO (wk_out (wk_E nm (wk_ht tm)) th S (wz_al th (vl_mf l []).length) A) → sx_C sL sx d 123 [.inr (.inl 55), .inl z] s K := fun A a1 a2 hp => by
    refine c_k_write hsL d hd S PR tm _ A z s K z2 a1 a2 z3 (fun zz t t1 t2 t3 t4 => hK zz t _ t1 t2 (wk_D_st z1 z2 z4 z5 t1 t2 t3) hp ?_ (fun q => ?_))
    · unfold wy_sz
      rcases t4 with ⟨c1, c2, _⟩ | ⟨c1, c2⟩
      · rw [if_pos c1]
        exact c2
      · rw [if_neg (by omega)]
        exact c2
    · rcases t4 with ⟨_, _, c3⟩ | ⟨c1, _⟩
      · exact c3
      · omega
  rcases hz with ⟨k, k1, k2, k3⟩ | ⟨k, si, k1, k2, k3⟩
  · obtain ⟨A, a1, a2, a3⟩ := z4.2 k _ (List.getElem?_eq_getElem k1)
    rw [← k2] at a1
    refine key A a1 a2 (k3 _ (fun _ => ⟨TV, AR, tl, S, th, wk_ht tm, nm, _, z1, by rw [Int.toNat_natCast]; exact List.getElem?_eq_getElem k1, ?_⟩))
    unfold wk_out wy_o
    rw [a3, Int.toNat_natCast]
  · have hk : k < tl.length := by have := z5.1; omega
    obtain ⟨l1, l2⟩ := vs_tl_mk (z1 trivial).1.1
    have hke : k < (vl_eq l [] []).length := by omega
    have hpe := List.getElem?_eq_getElem hke
    obtain ⟨W, V, x, y, w1, w2, w3⟩ := l2 k _ hpe
    obtain ⟨⟨a1, a2, a5⟩, a3, a4, a6⟩ := z5.2 k W V w1
    rcases k2 with ⟨k2, k4⟩ | ⟨k2, k4⟩
    · rw [← k4] at a1
      refine key _ a1 a2 (k3 _ (fun _ => ⟨TV, AR, tl, S, th, wk_ht tm, nm, _, W, x, z1, by rw [Int.toNat_natCast]; exact hpe, by rw [if_pos k2]; exact w2, ?_⟩))
      unfold wk_out
      rw [a5]
    · rw [← k4] at a3
      refine key _ a3 a4 (k3 _ (fun _ => ⟨TV, AR, tl, S, th, wk_ht tm, nm, _, V, y, z1, by rw [Int.toNat_natCast]; exact hpe, by rw [if_neg k2]; exact w3, ?_⟩))
      unfold wk_out
      rw [a6]
theorem c_K_size {b : Nat → Int} {n : Int} {l : List vl_I} {sL : Nat} {sx : Nat → Int32} (hsL : sL ≤ 3072) (d : Nat) (hd : 26 ≤ d) : ∀ (a0 : Int) (s : sx_S) (K : Int → sx_S → Prop), cx_I s → (-2147483648 ≤ a0 ∧ a0 ≤ 2147483647) → (s.1 0 2 ≠ 0 → s.1 0 3 = 0 → wk_D b n l s) → (∀ zz t, cx_I t → wk_fw s t → (s.1 0 2 ≠ 0 → s.1 0 3 = 0 → wk_D b n l t) → (((s.1 0 2 ≠ 0 ∧ s.1 0 3 = 0 ∧ 0 ≤ a0 ∧ a0 < s.1 22 2) ∧ ∃ o, wy_O b n l a0 o ∧ zz = wy_sz o) ∨ (¬ (s.1 0 2 ≠ 0 ∧ s.1 0 3 = 0 ∧ 0 ≤ a0 ∧ a0 < s.1 22 2) ∧ zz = -1)) → K zz t) → sx_C sL sx d 143 [.inr (.inl 0), .inl a0] s K := by
  intro a0 s K hI p0 hD hK
  refine c_k_size hsL d hd a0 s K (fun zz t => cx_I t ∧ wk_fw s t ∧ wk_D b n l t ∧ (-1 ≤ zz ∧ zz ≤ 4000) ∧ ∃ o, wy_O b n l a0 o ∧ zz = wy_sz o) hI p0 (fun zz t h => h.2.2.2.1) (fun c d' hd' K' hK' => ?_) (fun c zz t h => hK zz t h.1 h.2.1 (fun _ _ => h.2.2.1) (Or.inl ⟨c, h.2.2.2.2⟩)) (fun c => hK (-1) s hI (wk_fw_of (wk_fr_refl s)) hD (Or.inr ⟨c, rfl⟩))
  have hDs := hD c.1 c.2.1
  have n22 : s.1 22 2 = ((vl_mf l []).length : Int) := by
    obtain ⟨_, _, _, _, _, _, _, _, _, _, _, _, _, _, _, _, z4, _⟩ := hDs trivial
    exact z4.1
  refine c_K_root hsL d' hd' _ s K' (fun o => wy_O b n l a0 o) hDs (Or.inl ⟨a0.toNat, by omega, rfl, fun o ho => by rw [Int.toNat_of_nonneg c.2.2.1] at ho; exact ho⟩) (fun zz t o t1 t2 t3 t4 t5 _ => hK' zz t ⟨t1, t2, t3, ?_, o, t4, t5⟩)
  rw [t5]
  unfold wy_sz
  by_cases q : o.length ≤ 4000
  · rw [if_pos q]
    omega
  · rw [if_neg q]
    omega
theorem c_K_letter {b : Nat → Int} {n : Int} {l : List vl_I} {sL : Nat} {sx : Nat → Int32} (hsL : sL ≤ 3072) (d : Nat) (hd : 26 ≤ d) : ∀ (a0 a1 : Int) (s : sx_S) (K : Int → sx_S → Prop), cx_I s → (-2147483648 ≤ a0 ∧ a0 ≤ 2147483647) → (-2147483648 ≤ a1 ∧ a1 ≤ 2147483647) → (s.1 0 2 ≠ 0 → s.1 0 3 = 0 → wk_D b n l s) → (∀ zz t, cx_I t → wk_fw s t → (s.1 0 2 ≠ 0 → s.1 0 3 = 0 → wk_D b n l t) → (-2147483648 ≤ zz ∧ zz ≤ 2147483647) → (((s.1 0 2 ≠ 0 ∧ s.1 0 3 = 0 ∧ 0 ≤ a0 ∧ a0 < s.1 22 2) ∧ ∃ o, wy_O b n l a0 o ∧ zz = wy_by o a1) ∨ (¬ (s.1 0 2 ≠ 0 ∧ s.1 0 3 = 0 ∧ 0 ≤ a0 ∧ a0 < s.1 22 2) ∧ zz = -1)) → K zz t) → sx_C sL sx d 144 [.inr (.inl 0), .inl a0, .inl a1] s K := by
  intro a0 a1 s K hI p0 p1 hD hK
  refine c_k_letter hsL d hd a0 a1 s K (fun zz t => cx_I t ∧ wk_fw s t ∧ wk_D b n l t ∧ (-1 ≤ zz ∧ zz ≤ 4000) ∧ ∃ o, wy_O b n l a0 o ∧ zz = wy_sz o ∧ (o.length ≤ 4000 → wb_Dp t o)) hI p0 p1 (fun zz t h => ⟨h.1, h.2.2.2.1⟩) (fun c d' hd' K' hK' => ?_) (fun c zz t h => ?_) (fun c => hK (-1) s hI (wk_fw_of (wk_fr_refl s)) hD (by decide) (Or.inr ⟨c, rfl⟩))
  · have hDs := hD c.1 c.2.1
    have n22 : s.1 22 2 = ((vl_mf l []).length : Int) := by
      obtain ⟨_, _, _, _, _, _, _, _, _, _, _, _, _, _, _, _, z4, _⟩ := hDs trivial
      exact z4.1
    refine c_K_root hsL d' hd' _ s K' (fun o => wy_O b n l a0 o) hDs (Or.inl ⟨a0.toNat, by omega, rfl, fun o ho => by rw [Int.toNat_of_nonneg c.2.2.1] at ho; exact ho⟩) (fun zz t o t1 t2 t3 t4 t5 t6 => hK' zz t ⟨t1, t2, t3, ?_, o, t4, t5, t6⟩)
    rw [t5]
    unfold wy_sz
    by_cases q : o.length ≤ 4000
    · rw [if_pos q]
      omega
    · rw [if_neg q]
      omega
  · obtain ⟨t1, t2, t3, _, o, t4, t5, t6⟩ := h
    have fin : ∀ y, (-2147483648 ≤ y ∧ y ≤ 2147483647) → y = wy_by o a1 → K y t := fun y ry hy => hK y t t1 t2 (fun _ _ => t3) ry (Or.inl ⟨c, o, t4, hy⟩)
    have ra := t1.arr 65 (by decide) rfl a1.toNat
    unfold wy_sz at t5
    unfold wy_by at fin
    by_cases q : o.length ≤ 4000
    · rw [if_pos q] at t5
      have dp := t6 q
      have d10 := dp.1
      refine ⟨fun z0 => by omega, fun _ q1 q2 q3 => fin _ (by omega) ?_, fun _ q1 => fin _ (by decide) ?_⟩
      · rw [if_pos ⟨q, q1, by omega⟩]
        exact wk_Dp_at dp q1 (by omega) q3
      · rw [if_neg (by omega)]
    · rw [if_neg q] at t5
      refine ⟨fun _ => fin _ (by decide) (by rw [if_neg (fun z => q z.1)]), fun z0 => by omega, fun z0 => by omega⟩
theorem wy_sz_r (o : List Int) : -1 ≤ wy_sz o ∧ wy_sz o ≤ 4000 := by
  unfold wy_sz
  by_cases c : o.length ≤ 4000
  · rw [if_pos c]
    omega
  · rw [if_neg c]
    decide
theorem c_K_side {b : Nat → Int} {n : Int} {l : List vl_I} {sL : Nat} {sx : Nat → Int32} (hsL : sL ≤ 3072) (d : Nat) (hd : 26 ≤ d) : ∀ (a0 a1 : Int) (s : sx_S) (K : Int → sx_S → Prop), cx_I s → (-2147483648 ≤ a0 ∧ a0 ≤ 2147483647) → (-2147483648 ≤ a1 ∧ a1 ≤ 2147483647) → (s.1 0 2 ≠ 0 → s.1 0 3 = 0 → wk_D b n l s) → (∀ zz t, cx_I t → wk_fw s t → (s.1 0 2 ≠ 0 → s.1 0 3 = 0 → wk_D b n l t) → (((s.1 0 2 ≠ 0 ∧ s.1 0 3 = 0 ∧ (0 ≤ a0 ∧ a0 < s.1 18 10) ∧ 0 ≤ a1 ∧ a1 ≤ 1) ∧ ∃ o, wy_Os b n l a0 a1 o ∧ zz = wy_sz o) ∨ (¬ (s.1 0 2 ≠ 0 ∧ s.1 0 3 = 0 ∧ (0 ≤ a0 ∧ a0 < s.1 18 10) ∧ 0 ≤ a1 ∧ a1 ≤ 1) ∧ zz = -1)) → K zz t) → sx_C sL sx d 145 [.inr (.inl 0), .inl a0, .inl a1] s K := by
  intro a0 a1 s K hI p0 p1 hD hK
  refine c_k_side hsL d hd a0 a1 s K (fun zz t => cx_I t ∧ wk_fw s t ∧ wk_D b n l t ∧ ∃ o, wy_Os b n l a0 a1 o ∧ zz = wy_sz o) hI p0 p1 (fun zz t h => ?_) (fun c d' hd' K' hK' => ?_) (fun c zz t h => hK zz t h.1 h.2.1 (fun _ _ => h.2.2.1) (Or.inl ⟨c, h.2.2.2⟩)) (fun c => hK (-1) s hI (wk_fw_of (wk_fr_refl s)) hD (Or.inr ⟨c, rfl⟩))
  · obtain ⟨_, _, _, o, _, h⟩ := h
    rw [h]
    exact wy_sz_r o
  · refine c_K_root hsL d' hd' _ s K' (fun o => wy_Os b n l a0 a1 o) (hD c.1 c.2.1) (Or.inr ⟨a0.toNat, a1, by omega, ?_, fun o ho => by rw [Int.toNat_of_nonneg c.2.2.1.1] at ho; exact ho⟩) (fun zz t o t1 t2 t3 t4 t5 _ => hK' zz t ⟨t1, t2, t3, o, t4, t5⟩)
    by_cases q : a1 = 0
    · exact Or.inl ⟨q, by rw [show (2 * a0 + a1).toNat = 2 * a0.toNat by omega]⟩
    · exact Or.inr ⟨q, by rw [show (2 * a0 + a1).toNat = 2 * a0.toNat + 1 by omega]⟩
theorem c_K_sideLetter {b : Nat → Int} {n : Int} {l : List vl_I} {sL : Nat} {sx : Nat → Int32} (hsL : sL ≤ 3072) (d : Nat) (hd : 26 ≤ d) : ∀ (a0 a1 a2 : Int) (s : sx_S) (K : Int → sx_S → Prop), cx_I s → (-2147483648 ≤ a0 ∧ a0 ≤ 2147483647) → (-2147483648 ≤ a1 ∧ a1 ≤ 2147483647) → (-2147483648 ≤ a2 ∧ a2 ≤ 2147483647) → (s.1 0 2 ≠ 0 → s.1 0 3 = 0 → wk_D b n l s) → (∀ zz t, cx_I t → wk_fw s t → (s.1 0 2 ≠ 0 → s.1 0 3 = 0 → wk_D b n l t) → (-2147483648 ≤ zz ∧ zz ≤ 2147483647) → (((s.1 0 2 ≠ 0 ∧ s.1 0 3 = 0 ∧ (0 ≤ a0 ∧ a0 < s.1 18 10) ∧ 0 ≤ a1 ∧ a1 ≤ 1) ∧ ∃ o, wy_Os b n l a0 a1 o ∧ zz = wy_by o a2) ∨ (¬ (s.1 0 2 ≠ 0 ∧ s.1 0 3 = 0 ∧ (0 ≤ a0 ∧ a0 < s.1 18 10) ∧ 0 ≤ a1 ∧ a1 ≤ 1) ∧ zz = -1)) → K zz t) → sx_C sL sx d 146 [.inr (.inl 0), .inl a0, .inl a1, .inl a2] s K := by
  intro a0 a1 a2 s K hI p0 p1 p2 hD hK
  refine c_k_sideLetter hsL d hd a0 a1 a2 s K (fun zz t => cx_I t ∧ wk_fw s t ∧ wk_D b n l t ∧ (-1 ≤ zz ∧ zz ≤ 4000) ∧ ∃ o, wy_Os b n l a0 a1 o ∧ zz = wy_sz o ∧ (o.length ≤ 4000 → wb_Dp t o)) hI p0 p1 p2 (fun zz t h => ⟨h.1, h.2.2.2.1⟩) (fun c d' hd' K' hK' => ?_) (fun c zz t h => ?_) (fun c => hK (-1) s hI (wk_fw_of (wk_fr_refl s)) hD (by decide) (Or.inr ⟨c, rfl⟩))
  · refine c_K_root hsL d' hd' _ s K' (fun o => wy_Os b n l a0 a1 o) (hD c.1 c.2.1) (Or.inr ⟨a0.toNat, a1, by omega, ?_, fun o ho => by rw [Int.toNat_of_nonneg c.2.2.1.1] at ho; exact ho⟩) (fun zz t o t1 t2 t3 t4 t5 t6 => hK' zz t ⟨t1, t2, t3, by rw [t5]; exact wy_sz_r o, o, t4, t5, t6⟩)
    by_cases q : a1 = 0
    · exact Or.inl ⟨q, by rw [show (2 * a0 + a1).toNat = 2 * a0.toNat by omega]⟩
    · exact Or.inr ⟨q, by rw [show (2 * a0 + a1).toNat = 2 * a0.toNat + 1 by omega]⟩
  · obtain ⟨t1, t2, t3, _, o, t4, t5, t6⟩ := h
    have fin : ∀ y, (-2147483648 ≤ y ∧ y ≤ 2147483647) → y = wy_by o a2 → K y t := fun y ry hy => hK y t t1 t2 (fun _ _ => t3) ry (Or.inl ⟨c, o, t4, hy⟩)
    have ra := t1.arr 65 (by decide) rfl a2.toNat
    unfold wy_sz at t5
    unfold wy_by at fin
    by_cases q : o.length ≤ 4000
    · rw [if_pos q] at t5
      have dp := t6 q
      have d10 := dp.1
      refine ⟨fun z0 => by omega, fun _ q1 q2 q3 => fin _ (by omega) ?_, fun _ q1 => fin _ (by decide) ?_⟩
      · rw [if_pos ⟨q, q1, by omega⟩]
        exact wk_Dp_at dp q1 (by omega) q3
      · rw [if_neg (by omega)]
    · rw [if_neg q] at t5
      refine ⟨fun _ => fin _ (by decide) (by rw [if_neg (fun z => q z.1)]), fun z0 => by omega, fun z0 => by omega⟩
end
section
/-! ===== the reference: the values of its unknowns have types ===== -/
/-- a variable's type, in the body of the unknown x -/
def wr_V (ib : Int) (u : sx_S) (x v : Int) (T : rf_T) : Prop := rf_vb ib u v T ∨ rf_Nx u x v T
noncomputable def wr_tv (ib : Int) (u : sx_S) (x v : Int) : rf_T := @dite rf_T (∃ T, wr_V ib u x v T) (Classical.propDecidable _) (fun h => Classical.choose h) (fun _ => .leaf)
noncomputable def wr_tm (u : sx_S) (m i : Int) : rf_T := wy_T u m i.toNat
theorem wr_ht (u : sx_S) : wy_ht u = wk_ht (wr_tm u) := by
  funext h
  unfold wy_ht wk_ht
  refine List.map_congr_left (fun i _ => ?_)
  show wy_T u (-1 - h) i = wy_T u (-1 - h) ((i : Int)).toNat
  rw [Int.toNat_natCast]
theorem wr_V_inj {ib : Int} {u : sx_S} {x v : Int} {T T' : rf_T} (hn : ∀ p q : Nat, (p : Int) < rf_aa u x → (q : Int) < rf_aa u x → rf_fm u x p = rf_fm u x q → p = q) (a : wr_V ib u x v T) (b : wr_V ib u x v T') : T = T' := by
  rcases a with a | ⟨a1, q, a2, a3, a4⟩
  · rcases b with b | ⟨b1, q', b2, b3, b4⟩
    · exact rf_vb_inj a b
    · have := a.1.1
      omega
  · rcases b with b | ⟨b1, q', b2, b3, b4⟩
    · have := b.1.1
      omega
    · obtain rfl := hn q q' a2 b2 (a3.symm.trans b3)
      exact rf_py_inj a4 b4
theorem wr_tv_at {ib : Int} {u : sx_S} {x v : Int} {T : rf_T} (hn : ∀ p q : Nat, (p : Int) < rf_aa u x → (q : Int) < rf_aa u x → rf_fm u x p = rf_fm u x q → p = q) (h : wr_V ib u x v T) : wr_tv ib u x v = T := by
  have hx : ∃ T, wr_V ib u x v T := ⟨T, h⟩
  unfold wr_tv
  rw [dif_pos hx]
  exact wr_V_inj hn (Classical.choose_spec hx) h
theorem wr_tm_at {u : sx_S} {m : Int} {q : Nat} {T : rf_T} (h : rf_py u m q T) : wr_tm u m (q : Int) = T := by
  have hx : ∃ T, rf_py u m q T := ⟨T, h⟩
  unfold wr_tm
  rw [Int.toNat_natCast]
  unfold wy_T
  rw [dif_pos hx]
  exact rf_py_inj (Classical.choose_spec hx) h
theorem vr_1_sg : ∀ {A : rf_N}, A ≠ .leaf → vx_sg (vr_1 A)
  | .leaf, h => absurd rfl h
  | .inner j q _ f _, _ => ⟨j, q.1, q.2, vr_f q.1 f, rfl⟩
/-- a tree's type, as the values' types want it -/
theorem wr_ty {ib : Int} {u : sx_S} {g : rf_Gh} {x : Int} {AR : Nat → List Int} {tc : Int → rf_T} {nC : Int} (hI : cx_I u) (hn : ∀ p q : Nat, (p : Int) < rf_aa u x → (q : Int) < rf_aa u x → rf_fm u x p = rf_fm u x q → p = q) (hC : ∀ r : Int, 0 ≤ r → r < u.1 66 42 → rf_is u (tc r) (u.2.1 96 r.toNat)) (e42 : u.1 66 42 = nC) : ∀ {A : rf_N}, (∀ t, vr_t u AR A → (rf_gt (rf_Hn ib u (rf_Nx u x)) rf_P A).1 t → (vx_ty (wr_tv ib u x) tc (wr_tm u) AR (vr_1 A)).1 t ∧ wt_t (vr_S u g AR) nC (vr_1 A)) ∧ (∀ w, vr_r u AR A → (rf_gt (rf_Hn ib u (rf_Nx u x)) rf_P A).2 w rf_b → (vx_ty (wr_tv ib u x) tc (wr_tm u) AR (vr_c A)).2 w ∧ wt_t (vr_S u g AR) nC (vr_c A))
  | .leaf => ⟨fun _ h => h.elim, fun _ _ h => ⟨h, trivial⟩⟩
  | .inner j k z f X => by
    have hf := wr_ty (ib := ib) (g := g) (AR := AR) hI hn hC e42 (A := f)
    have hX := wr_ty (ib := ib) (g := g) (AR := AR) hI hn hC e42 (A := X)
    have key : ∀ t, vr_t u AR (.inner j k z f X) → ((k.1 = 0 ∧ ∃ A B, t = rf_a A B ∧ rf_Hn ib u (rf_Nx u x) j k.1 k.2 A ∧ (rf_gt (rf_Hn ib u (rf_Nx u x)) rf_P f).1 B) ∨ (k.1 ≠ 0 ∧ ∃ w, rf_Hn ib u (rf_Nx u x) j k.1 k.2 w ∧ (rf_gt (rf_Hn ib u (rf_Nx u x)) rf_P f).2 w t ∧ rf_P j t)) → (vx_ty (wr_tv ib u x) tc (wr_tm u) AR (.inner j k () (vr_f k.1 f) .leaf)).1 t ∧ ((k.1 = 0 ∧ vx_sg (vr_f k.1 f) ∧ wt_t (vr_S u g AR) nC (vr_f k.1 f)) ∨ (k.1 = 1 ∧ (0 ≤ k.2 ∧ k.2 < nC) ∧ wt_t (vr_S u g AR) nC (vr_f k.1 f)) ∨ (k.1 = 2 ∧ wt_t (vr_S u g AR) nC (vr_f k.1 f)) ∨ (k.1 = 3 ∧ 0 ≤ k.2 ∧ ((AR j).length : Int) = vr_ar u k.2 ∧ (AR j).length ≤ 4)) := by
      rintro t ⟨hj, h⟩ hg
      rcases h with ⟨k0, h⟩ | ⟨k3, hb, hq⟩ | ⟨k2, h⟩
      · rw [vr_f_0 k0]
        rcases hg with ⟨_, A, B, e1, e2, e3⟩ | ⟨c, _⟩
        · have hv : rf_vb ib u k.2 A := by
            rcases e2 with ⟨_, e⟩ | ⟨c, _⟩ | ⟨c, _⟩ | ⟨c, _⟩
            · exact e
            · omega
            · omega
            · omega
          obtain ⟨y1, y2⟩ := hf.1 B h e3
          have eT := wr_tv_at hn (Or.inl hv)
          exact ⟨Or.inl ⟨k0, B, by rw [eT]; exact e1, y1⟩, Or.inl ⟨k0, vr_1_sg (vr_t_ne h), y2⟩⟩
        · exact absurd k0 c
      · rw [vr_f_3 k3]
        rcases hg with ⟨c, _⟩ | ⟨_, w, e1, e2, e3⟩
        · omega
        · rcases e1 with ⟨c, _⟩ | ⟨c, _⟩ | ⟨c, _⟩ | ⟨_, _, hr, _, hpy⟩
          · omega
          · omega
          · omega
          · have l4 := vr_aa0 hI k.2
            have el : (AR j).length = (rf_aa u k.2).toNat := by
              rw [hq]
              exact vr_gl
            refine ⟨Or.inr (Or.inr (Or.inr ⟨k3, e3, fun i y hy => ?_⟩)), Or.inr (Or.inr (Or.inr ⟨k3, hr.1, ?_, by omega⟩))⟩
            · rw [hq] at hy
              obtain ⟨i1, i2⟩ := vr_gr.mp hy
              obtain ⟨x', p1, p2⟩ := hpy i (by omega)
              rw [i2, wr_tv_at hn p2, wr_tm_at p1]
            · rw [el, vr_ar_at hr]
              omega
      · rw [vr_f_2 k2]
        rcases hg with ⟨c, _⟩ | ⟨_, w, e1, e2, e3⟩
        · omega
        · have e3' : t = rf_b := e3
          rw [e3'] at e2
          obtain ⟨y1, y2⟩ := hf.2 w h e2
          rcases k2 with k1 | k2
          · have hc : (0 ≤ k.2 ∧ k.2 < u.1 66 42) ∧ rf_is u w (u.2.1 96 k.2.toNat) := by
              rcases e1 with ⟨c, _⟩ | ⟨_, e⟩ | ⟨c, _⟩ | ⟨c, _⟩
              · omega
              · exact e
              · omega
              · omega
            have ew : w = tc k.2 := rf_ty_inj hc.2 (hC k.2 hc.1.1 hc.1.2)
            rw [ew] at y1
            exact ⟨Or.inr (Or.inl ⟨k1, e3', y1⟩), Or.inr (Or.inl ⟨k1, ⟨hc.1.1, by omega⟩, y2⟩)⟩
          · have hv : rf_vb ib u k.2 w := by
              rcases e1 with ⟨c, _⟩ | ⟨c, _⟩ | ⟨_, e⟩ | ⟨c, _⟩
              · omega
              · omega
              · exact e
              · omega
            have eT := wr_tv_at hn (Or.inl hv)
            exact ⟨Or.inr (Or.inr (Or.inl ⟨k2, e3', by rw [eT]; exact y1⟩)), Or.inr (Or.inr (Or.inl ⟨k2, y2⟩))⟩
    refine ⟨fun t h hg => ?_, fun w h hg => ?_⟩
    · rw [vr_1_in]
      obtain ⟨a, b⟩ := key t h hg
      exact ⟨a, b, trivial⟩
    · obtain ⟨A, B, e, g1, g2⟩ := hg
      obtain ⟨a, b⟩ := key A h.1 g1
      obtain ⟨x1, x2⟩ := hX.2 B h.2 g2
      rw [vr_c_in]
      exact ⟨⟨A, B, e, a, x1⟩, b, x2⟩
theorem wr_fo {ib : Int} {u : sx_S} {x : Int} {U : Int → Nat → Prop} (hU : ∀ m (q : Nat), 0 ≤ m → m < u.1 66 61 → U m q → (q : Int) < rf_aa u m) {v : Int} : ∀ {A : rf_N}, (∀ t, (rf_gt (rf_Hn ib u (rf_Nx u x)) rf_P A).1 t → (rf_fo (rf_Wd u U) A).1 v → ∃ T, wr_V ib u x v T) ∧ (∀ w t, (rf_gt (rf_Hn ib u (rf_Nx u x)) rf_P A).2 w t → (rf_fo (rf_Wd u U) A).2 v → ∃ T, wr_V ib u x v T)
  | .leaf => ⟨fun _ h => h.elim, fun _ _ _ h => h.elim⟩
  | .inner j k z f X => by
    have hf := wr_fo (ib := ib) (x := x) hU (v := v) (A := f)
    have hX := wr_fo (ib := ib) (x := x) hU (v := v) (A := X)
    have key : ∀ t, (rf_gt (rf_Hn ib u (rf_Nx u x)) rf_P (.inner j k z f X)).1 t → (rf_fo (rf_Wd u U) (.inner j k z f X)).1 v → ∃ T, wr_V ib u x v T := by
      intro t hg hv
      rcases hg with ⟨k0, A, B, e1, e2, e3⟩ | ⟨k0, w, e1, e2, e3⟩
      · rcases hv with ⟨c, _⟩ | ⟨_, _, h⟩ | ⟨c, _⟩
        · omega
        · exact hf.1 B e3 h
        · omega
      · rcases hv with ⟨c, q, q1, q2⟩ | ⟨c, _⟩ | ⟨c, h⟩
        · rcases e1 with ⟨c', _⟩ | ⟨c', _⟩ | ⟨c', _⟩ | ⟨_, _, hr, _, hpy⟩
          · omega
          · omega
          · omega
          · obtain ⟨T, _, p2⟩ := hpy q (hU _ q hr.1 hr.2 q1)
            exact ⟨T, by rw [q2]; exact p2⟩
        · exact absurd c k0
        · rcases h with ⟨c2, ev⟩ | h
          · rcases e1 with ⟨c', _⟩ | ⟨c', _⟩ | ⟨_, hv⟩ | ⟨c', _⟩
            · omega
            · omega
            · exact ⟨w, Or.inl (by rw [ev]; exact hv)⟩
            · omega
          · exact hf.2 w t e2 h
    refine ⟨key, fun w t hg hv => ?_⟩
    obtain ⟨A, B, e, g1, g2⟩ := hg
    rcases hv with hv | hv
    · exact key A g1 hv
    · exact hX.2 B t g2 hv
/-- what is known of the bodies -/
theorem wr_B {nb ib : Int} {u : sx_S} {g : rf_Gh} {AR : Nat → List Int} {tc : Int → rf_T} {nC : Int} (hI : cx_I u) (hM : rf_MI nb ib u g) (hG : vr_G u g AR) (hC : ∀ r : Int, 0 ≤ r → r < u.1 66 42 → rf_is u (tc r) (u.2.1 96 r.toNat)) (e42 : u.1 66 42 = nC) : wt_B tc (wr_tm u) (vr_S u g AR) (vr_U g) nC := fun _ => by
  refine ⟨fun m i h1 h2 h3 => (vr_cl hM hG).1 m i h1 h2 h3, fun m B e hb => ?_⟩
  have hW := vr_W hI hG m B e hb
  obtain ⟨h1, h2, rfl, rfl⟩ := vr_bo_some hb
  have hMX := hM.1 m h1.1 h1.2
  have hSV := hMX.2.2.2 h2
  have hG1 := hG m h1.1 h1.2 h2
  have hn := hSV.2.2.1.2.2.2
  obtain ⟨ty, tt⟩ := (wr_ty (g := g) hI hn hC e42).1 .leaf hG1 hSV.1.2.1
  refine ⟨wr_tv ib u m, ⟨vr_1_sg (vr_t_ne hG1), ty, tt⟩, hW.2.2, fun z hz => ?_⟩
  have hz' := (vr_fv (s := u) (AR := AR) (V := vr_U g) (U := g.2.2) (fun m i _ ⟨q, q1, q2⟩ => by rw [show i = q by omega]; exact q2)).1 hG1 hz
  obtain ⟨q, q1, q2⟩ := hSV.2.2.2.1 z hz'
  have qa := hMX.2.1 q q1
  have ez := vr_e_at hn qa q2
  obtain ⟨T, hT⟩ := (wr_fo (ib := ib) (x := m) (fun m' q' a b c => (hM.1 m' a b).2.1 q' c)).1 _ hSV.1.2.1 hz'
  have key : rf_py u m q T := by
    rcases hT with hT | ⟨z0, q', a1, a2, a3⟩
    · have hl := hSV.2.1.2.2.1 z T (Or.inl hT)
      rw [q2] at hl
      rcases hSV.2.2.1.2.1 q qa with ⟨T', p1, p2⟩ | c
      · rw [rf_vb_inj hl p2]
        exact p1
      · have := hl.1.1
        omega
    · rcases hSV.2.2.1.2.2.1 with ⟨y1, _⟩ | y
      · rw [y1] at q2
        have q3 : z = rf_fm u m q := q2
        obtain rfl := hn q q' qa a1 (q3.symm.trans a2)
        exact a3
      · have := y q' a1
        omega
  rw [ez]
  refine ⟨⟨q, rfl, q1⟩, by omega, ?_⟩
  rw [wr_tv_at hn hT, wr_tm_at key]
theorem wr_th {nb ib : Int} {u : sx_S} {g : rf_Gh} {AR : Nat → List Int} {tc : Int → rf_T} {nC : Int} {th : Int → rf_N} (hI : cx_I u) (hM : rf_MI nb ib u g) (hG : vr_G u g AR) (hC : ∀ r : Int, 0 ≤ r → r < u.1 66 42 → rf_is u (tc r) (u.2.1 96 r.toNat)) (e42 : u.1 66 42 = nC) (hS : vx_So (vr_S u g AR) th) (ho : ∀ v, (vr_S u g AR).2.2.2.1 v = none → th v = vx_gn (vr_ar u) v) {m : Int} (m0 : 0 ≤ m) {Γ : Int → rf_T} (hΓ : ∀ i : Nat, (i : Int) < vr_ar u m → Γ (i : Int) = wr_tm u m (i : Int)) : (wt tc nC (wy_ht u) (th m)).1 Γ (vr_ar u m) rf_b := by
  have hB := wr_B hI hM hG hC e42
  have a0 := vr_ar0 hI m
  have a4 : vr_ar u m ≤ 4 := by
    unfold vr_ar
    by_cases c : 0 ≤ m ∧ m < u.1 66 61
    · rw [if_pos c]
      exact (vr_aa0 hI m).2
    · rw [if_neg c]
      decide
  rw [wr_ht]
  cases hb : (vr_S u g AR).2.2.2.1 m with
  | none =>
    rw [ho m hb]
    obtain ⟨_, v2, v3⟩ := wz_vs (vr_ar u m).toNat 0
    refine Or.inr (Or.inl ⟨⟨rfl, by show -1 - m < 0; omega⟩, rfl, fun i y hy => ?_⟩)
    have hy' : (dz_hs (vx_vs (vr_ar u m).toNat 0))[i]? = some y := hy
    have hi : i < (vr_ar u m).toNat := by
      rw [← v2]
      exact (List.getElem?_eq_some_iff.mp hy').1
    rw [v3 i hi] at hy'
    have ey : (0 : Int) + (i : Int) = y := Option.some.inj hy'
    rw [← ey, Int.zero_add]
    refine ⟨?_, by omega⟩
    show (wk_ht (wr_tm u) (-1 - m)).getD i .leaf = _
    rw [wk_ht_at (by omega)]
    exact (hΓ i (by omega)).symm
  | some p =>
    obtain ⟨B, e⟩ := p
    have hv := hS.2.2 m B e hb
    obtain ⟨tv, ⟨sB, yB, tB⟩, hlt, hfB⟩ := (hB trivial).2 m B e hb
    have w := (wt_se hS ho (vr_rk hI hM hG) hB _ B (fun m' hm => vr_rk hI hM hG m B e m' hb hm) tB).1 tv e (vr_ar u m) Γ rf_b (vx_sg_1 sB).1 a0 (by rw [(vx_sg_1 sB).2]; exact yB) (fun z hz => by
      rw [(vx_sg_1 sB).2] at hz
      obtain ⟨u1, u2, u3⟩ := hfB z hz
      have u4 : e z < vr_ar u m := hlt z
      refine ⟨⟨u2, u4⟩, ?_⟩
      have h := hΓ (e z).toNat (by omega)
      rw [Int.toNat_of_nonneg u2] at h
      rw [u3]
      exact h.symm)
    rw [(vx_sg_1 sB).2] at w
    rw [hv]
    exact w
/-- \ over a value -/
theorem wt_lm {tc : Int → rf_T} {nC : Int} {ht : Int → List rf_T} {v : rf_N} {l r : Nat → Int} {N : Int} (hon : vx_on v) : ∀ (n : Nat) (x : rf_T) (t : Int) (Γ : Int → rf_T) (L : Int), rf_ty l r N x t → (rf_args x).length = n → (∀ Γ' : Int → rf_T, (∀ i, i < L → Γ' i = Γ i) → (∀ (i : Nat) T, (rf_args x)[i]? = some T → Γ' (L + (i : Int)) = T) → (wt tc nC ht v).1 Γ' (L + (n : Int)) rf_b) → (wt tc nC ht (vq_lm n v)).1 Γ L x
  | 0, .leaf, t, Γ, L, _, _, h => by
    have := h Γ (fun _ _ => rfl) (fun i T hT => by cases hT)
    rw [show L + ((0 : Nat) : Int) = L by omega] at this
    exact this
  | 0, .inner _ _ _ _ _, _, _, _, _, e, _ => by
    exfalso
    exact absurd e (Nat.succ_ne_zero _)
  | n + 1, .leaf, _, _, _, _, e, _ => by
    exfalso
    exact absurd e.symm (Nat.succ_ne_zero _)
  | n + 1, .inner z () () A B, t, Γ, L, hy, e, h => by
    obtain ⟨⟨z0, _, _⟩, _, yB⟩ := hy
    subst z0
    have e' : (rf_args B).length = n := Nat.succ.inj e
    have ih := wt_lm (tc := tc) (nC := nC) (ht := ht) hon n B _ (fun l => if l = L then A else Γ l) (L + 1) yB e' (fun Γ' g1 g2 => by
      have := h Γ' (fun i hi => by
        rw [g1 i (by omega)]
        show (if i = L then A else Γ i) = Γ i
        rw [if_neg (by omega)]) (fun i T hT => by
        cases i with
        | zero =>
          have eA : A = T := Option.some.inj hT
          rw [show L + ((0 : Nat) : Int) = L by omega, g1 L (by omega), ← eA]
          show (if L = L then A else Γ L) = A
          rw [if_pos rfl]
        | succ i =>
          have := g2 i T hT
          rw [show L + ((i + 1 : Nat) : Int) = L + 1 + (i : Int) by omega]
          exact this)
      rw [show L + ((n + 1 : Nat) : Int) = L + 1 + (n : Int) by omega] at this
      exact this)
    exact Or.inl ⟨rfl, vq_lm_on hon n, A, B, rfl, ih⟩
/-- the unknowns' values are of their types -/
theorem wr_roots {nb ib : Int} {u : sx_S} {g : rf_Gh} {AR : Nat → List Int} {th : Int → rf_N} {C M : List (Int × qx_T)} {mt mt' : Int} (hI : cx_I u) (hM : rf_MI nb ib u g) (hG : vr_G u g AR) (hS : vx_So (vr_S u g AR) th) (ho : ∀ v, (vr_S u g AR).2.2.2.1 v = none → th v = vx_gn (vr_ar u) v) (hC : px_DL 95 96 42 mt u C) (hD : px_DL 97 123 45 mt' u M) (h9 : 2 ≤ u.1 66 9) (hU : rf_UK u) (k : Nat) (p : Int × qx_T) (hp : M[k]? = some p) : (wt (dl_tc C) (C.length : Int) (wy_ht u) (vq_lm (rf_args (qx_sh p.2)).length (th (k : Int)))).1 (fun _ => rf_b) 0 (qx_sh p.2) := by
  obtain ⟨c1, c2⟩ := hC trivial
  obtain ⟨d1, d2⟩ := hD trivial
  have hk : k < M.length := (List.getElem?_eq_some_iff.mp hp).1
  have tcs : ∀ r : Int, 0 ≤ r → r < u.1 66 42 → rf_is u (dl_tc C r) (u.2.1 96 r.toNat) := fun r r0 r1 => by
    obtain ⟨e, e1, _, _, e4⟩ := c2 r.toNat (by omega)
    have : dl_tc C r = qx_sh e.2 := by
      unfold dl_tc
      rw [e1]
      rfl
    rw [this]
    exact qx_ty_sh h9 e4
  obtain ⟨e, e1, _, _, e4⟩ := d2 k hk
  rw [hp] at e1
  have ep : p = e := Option.some.inj e1
  subst ep
  obtain ⟨x, x1, _, x3, x4⟩ := hU.2 (k : Int) (by omega) (by omega)
  rw [Int.toNat_natCast] at x1
  have hty : rf_is u (qx_sh p.2) (u.2.1 123 k) := qx_ty_sh h9 e4
  have ex : x = qx_sh p.2 := rf_ty_inj x1 hty
  subst ex
  have k61 : (k : Int) < u.1 66 61 := by
    have := hU.1
    omega
  have ea := vr_ar_at (s := u) (u := (k : Int)) ⟨by omega, k61⟩
  refine wt_lm (hS.1 _).1 _ _ _ _ _ hty rfl (fun Γ' _ hΓ => ?_)
  have w := wr_th (tc := dl_tc C) (Γ := Γ') hI hM hG tcs c1.symm hS ho (m := (k : Int)) (by omega) (fun i hi => by
    have hi' : i < (rf_args (qx_sh p.2)).length := by omega
    have hT := List.getElem?_eq_getElem hi'
    have h1 := hΓ i _ hT
    rw [Int.zero_add] at h1
    rw [h1, wr_tm_at (x4 i _ hT)])
  rw [ea, x3] at w
  rw [Int.zero_add]
  exact w
/-! rows of what the reference has numbered -/
theorem wz_ok_oc {n : Int} {ar : Int → Int} {x : Int} : ∀ {A : rf_N}, wz_ok n ar A → wz_oc x A → ∃ m, x = -1 - m ∧ 0 ≤ m ∧ m < n
  | .leaf, _, h => h.elim
  | .inner j q u F X, h, ho => by
    obtain ⟨h1, h2, _⟩ := wz_ok_in.mp h
    rcases wz_oc_in.mp ho with c | c
    · by_cases q1 : q.1 = 1 ∧ q.2 < 0
      · rw [if_pos q1] at c h1
        exact ⟨-1 - q.2, by omega, by omega, h1.2.2⟩
      · rw [if_neg q1] at c h1
        exact wz_ok_oc h1 c
    · exact wz_ok_oc h2 c
theorem wr_rows {s : sx_S} {a : List (Int × List Int)} (hI : cx_I s) (hN : we_N s a) (hr : ∀ p ∈ a, ∃ m, p.1 = -1 - m ∧ 0 ≤ m ∧ m < s.1 66 61) (h0 : ∀ p ∈ a, ∀ y ∈ p.2, 0 ≤ y) : wt_rows a := by
  obtain ⟨_, h2, h5⟩ := hN trivial
  refine ⟨h2, fun p hp => ?_⟩
  obtain ⟨m, e, m0, m1⟩ := hr p hp
  rcases h5 m m0 m1 with ⟨_, c⟩ | ⟨i, xs, c1, _, c3, c4, _⟩
  · exact absurd (List.mem_map.mpr ⟨p, hp, e⟩) c
  · have ex : p.2 = xs := by
      obtain ⟨i', hi'⟩ := List.mem_iff_getElem?.mp hp
      have hi2 : a[i']? = some (-1 - m, p.2) := by rw [hi', ← e]
      have e1 := we_rw_at h2 hi2
      have e2 := we_rw_at h2 c1
      rw [← e1, e2]
    have := vr_aa0 hI m
    rw [ex]
    exact ⟨by omega, c4, fun y hy => h0 p hp y (by rw [ex]; exact hy)⟩
end
section
/-! ===== the reference: what load leaves, with the constants and the bytes ===== -/
def wr_LE (bb : Nat → Int) (n : Int) (l : List ((Int × Int × qx_T) × (px_N × px_N))) (x2 : Int) (C M : List (Int × qx_T)) (u : sx_S) : Prop := True → ∃ E : List ((List (Int × qx_T) × List (Int × qx_T)) × (px_N × px_N)), E ++ vk_eq (l.drop x2.toNat) C M = vk_eq l [] [] ∧ (E.length : Int) = u.1 66 47 ∧ (∀ (k : Nat) p, E[k]? = some p → vk_sd (px_SN bb n) p.1.1 p.1.2 p.2.1 u (u.2.1 98 k) ∧ vk_sd (px_SN bb n) p.1.1 p.1.2 p.2.2 u (u.2.1 99 k)) ∧ vk_mf (l.drop x2.toNat) M = vk_mf l [] ∧ vl_kf (l.drop x2.toNat) C = vl_kf l []
theorem wr_LE_0 {bb : Nat → Int} {n : Int} {l : List ((Int × Int × qx_T) × (px_N × px_N))} {u : sx_S} (h : u.1 66 47 = 0) : wr_LE bb n l 0 [] [] u := fun _ => ⟨[], rfl, by rw [h]; rfl, fun k p hp => by simp at hp, rfl, rfl⟩
theorem wr_LE_e {bb : Nat → Int} {n : Int} {l : List ((Int × Int × qx_T) × (px_N × px_N))} {x2 : Int} {C M : List (Int × qx_T)} {u t : sx_S} {q : ((Int × Int × qx_T) × (px_N × px_N))} (h : wr_LE bb n l x2 C M u) (h0 : 0 ≤ x2) (hq : l[x2.toNat]? = some q) (h5 : q.1.1 = 5) (hU : vk_U u t) (e47 : t.1 66 47 = u.1 66 47 + 1) (hs : (vk_sd (px_SN bb n) C M q.2.1 t (t.2.1 98 (u.1 66 47).toNat) ∧ vk_sd (px_SN bb n) C M q.2.2 t (t.2.1 99 (u.1 66 47).toNat)) ∧ ∀ i : Nat, (i : Int) < u.1 66 47 → t.2.1 98 i = u.2.1 98 i ∧ t.2.1 99 i = u.2.1 99 i) : wr_LE bb n l (x2 + 1) C M t := by
  intro _
  obtain ⟨E, a1, a2, a3, a4, a5⟩ := h trivial
  have hd := px_drop hq
  have ex : (x2 + 1).toNat = x2.toNat + 1 := by omega
  have e1 : vk_eq (q :: l.drop (x2.toNat + 1)) C M = ((C, M), q.2) :: vk_eq (l.drop (x2.toNat + 1)) C M := by
    show (if q.1.1 = 3 then _ else if q.1.1 = 4 then _ else _) = _
    rw [if_neg (by omega), if_neg (by omega)]
  have e2 : vk_mf (q :: l.drop (x2.toNat + 1)) M = vk_mf (l.drop (x2.toNat + 1)) M := if_neg (by omega)
  rw [hd, e1] at a1
  have e3 : vl_kf (q :: l.drop (x2.toNat + 1)) C = vl_kf (l.drop (x2.toNat + 1)) C := if_neg (by omega)
  rw [hd, e2] at a4
  rw [hd, e3] at a5
  refine ⟨E ++ [((C, M), q.2)], ?_, ?_, fun k p hp => ?_, ?_⟩
  · rw [ex, List.append_assoc]
    exact a1
  · rw [List.length_append, List.length_singleton, e47]
    push_cast
    omega
  · by_cases hk : k < E.length
    · rw [List.getElem?_append_left hk] at hp
      obtain ⟨b1, b2⟩ := a3 k p hp
      obtain ⟨c1, c2⟩ := hs.2 k (by omega)
      rw [c1, c2]
      exact ⟨vk_sd_up hU b1, vk_sd_up hU b2⟩
    · have hk2 : k < (E ++ [((C, M), q.2)]).length := (List.getElem?_eq_some_iff.mp hp).1
      rw [List.length_append, List.length_singleton] at hk2
      have ek : k = E.length := by omega
      rw [ek, List.getElem?_append_right (Nat.le_refl _), Nat.sub_self] at hp
      have ep : ((C, M), q.2) = p := Option.some.inj hp
      rw [← ep, show k = (u.1 66 47).toNat by omega]
      exact hs.1
  · rw [ex]
    exact ⟨a4, a5⟩
theorem wr_LE_d {bb : Nat → Int} {n : Int} {l : List ((Int × Int × qx_T) × (px_N × px_N))} {x2 : Int} {C M : List (Int × qx_T)} {u t : sx_S} {q : ((Int × Int × qx_T) × (px_N × px_N))} (h : wr_LE bb n l x2 C M u) (h0 : 0 ≤ x2) (hq : l[x2.toNat]? = some q) (hU : vk_U u t) (e47 : t.1 66 47 = u.1 66 47) (h98 : t.2.1 98 = u.2.1 98) (h99 : t.2.1 99 = u.2.1 99) : (q.1.1 = 3 → wr_LE bb n l (x2 + 1) (C ++ [(q.1.2.1, q.1.2.2)]) M t) ∧ (q.1.1 = 4 → wr_LE bb n l (x2 + 1) C (M ++ [(q.1.2.1, q.1.2.2)]) t) := by
  obtain ⟨E, a1, a2, a3, a4, a5⟩ := h trivial
  have hd := px_drop hq
  have ex : (x2 + 1).toNat = x2.toNat + 1 := by omega
  have a3' : ∀ (k : Nat) p, E[k]? = some p → vk_sd (px_SN bb n) p.1.1 p.1.2 p.2.1 t (t.2.1 98 k) ∧ vk_sd (px_SN bb n) p.1.1 p.1.2 p.2.2 t (t.2.1 99 k) := fun k p hp => by
    obtain ⟨b1, b2⟩ := a3 k p hp
    rw [h98, h99]
    exact ⟨vk_sd_up hU b1, vk_sd_up hU b2⟩
  refine ⟨fun q3 _ => ⟨E, ?_, by omega, a3', ?_⟩, fun q4 _ => ⟨E, ?_, by omega, a3', ?_⟩⟩
  · rw [hd] at a1
    rw [ex, ← a1]
    show E ++ _ = E ++ (if q.1.1 = 3 then _ else _)
    rw [if_pos q3]
  · rw [hd] at a4 a5
    rw [ex, ← a4, ← a5]
    constructor
    · show _ = (if q.1.1 = 4 then _ else _)
      rw [if_neg (by omega)]
    · show _ = (if q.1.1 = 3 then _ else _)
      rw [if_pos q3]
  · rw [hd] at a1
    rw [ex, ← a1]
    show E ++ _ = E ++ (if q.1.1 = 3 then _ else if q.1.1 = 4 then _ else _)
    rw [if_neg (by omega), if_pos q4]
  · rw [hd] at a4 a5
    rw [ex, ← a4, ← a5]
    constructor
    · show _ = (if q.1.1 = 4 then _ else _)
      rw [if_pos q4]
    · show _ = (if q.1.1 = 3 then _ else _)
      rw [if_neg (by omega)]
def wr_LJ (bb : Nat → Int) (n mt : Int) (l : List ((Int × Int × qx_T) × (px_N × px_N))) (u : sx_S) (x2 : Int) : Prop := True → (l.length : Int) = u.1 66 24 ∧ 0 ≤ u.1 66 47 ∧ (u.1 66 40 = 0 → ∃ C M, px_E bb n mt C M u ∧ (px_ck (px_SN bb n) l [] [] 0 ↔ px_ck (px_SN bb n) (l.drop x2.toNat) C M (u.1 66 47).toNat) ∧ (C.length + px_c3 3 (l.drop x2.toNat) = px_c3 3 l ∧ M.length + px_c3 4 (l.drop x2.toNat) = px_c3 4 l ∧ (u.1 66 47).toNat + px_c3 5 (l.drop x2.toNat) = px_c3 5 l) ∧ wr_LE bb n l x2 C M u) ∧ (u.1 66 40 ≠ 0 → ¬ px_ck (px_SN bb n) l [] [] 0)
theorem wr_LJ_e {bb : Nat → Int} {n mt : Int} {l : List ((Int × Int × qx_T) × (px_N × px_N))} {u t : sx_S} {x2 : Int} {q : ((Int × Int × qx_T) × (px_N × px_N))} {C M : List (Int × qx_T)} (hl : (l.length : Int) = u.1 66 24) (h47 : 0 ≤ u.1 66 47) (hE : px_E bb n mt C M u) (hi : px_ck (px_SN bb n) l [] [] 0 ↔ px_ck (px_SN bb n) (l.drop x2.toNat) C M (u.1 66 47).toNat) (h0 : 0 ≤ x2) (hq : l[x2.toNat]? = some q) (hn : (C.length + px_c3 3 (l.drop x2.toNat) = px_c3 3 l ∧ M.length + px_c3 4 (l.drop x2.toNat) = px_c3 4 l ∧ (u.1 66 47).toNat + px_c3 5 (l.drop x2.toNat) = px_c3 5 l)) (hLE : wr_LE bb n l x2 C M u) (hsd : t.1 66 40 = 0 → (vk_sd (px_SN bb n) C M q.2.1 t (t.2.1 98 (u.1 66 47).toNat) ∧ vk_sd (px_SN bb n) C M q.2.2 t (t.2.1 99 (u.1 66 47).toNat)) ∧ ∀ i : Nat, (i : Int) < u.1 66 47 → t.2.1 98 i = u.2.1 98 i ∧ t.2.1 99 i = u.2.1 99 i) (h5 : q.1.1 = 5) (hf : rf_FQ u t) (h : (t.1 66 40 = 0 → t.1 66 47 = u.1 66 47 + 1 ∧ u.1 66 47 ≤ 3 ∧ ∃ x, (px_wt (px_SN bb n) C M q.2.1).1 [] x ∧ (px_wt (px_SN bb n) C M q.2.2).1 [] x) ∧ (t.1 66 40 ≠ 0 → ¬ (u.1 66 47 ≤ 3 ∧ ∃ x, (px_wt (px_SN bb n) C M q.2.1).1 [] x ∧ (px_wt (px_SN bb n) C M q.2.2).1 [] x))) (t47 : t.1 66 40 ≠ 0 → 0 ≤ t.1 66 47) : wr_LJ bb n mt l t (x2 + 1) := by
  intro _
  have e24 := hf.2.1 24 rfl
  have hd := px_drop hq
  have ex : (x2 + 1).toNat = x2.toNat + 1 := by omega
  have step : px_ck (px_SN bb n) (l.drop x2.toNat) C M (u.1 66 47).toNat ↔ ((u.1 66 47).toNat < 4 ∧ (∃ x, (px_wt (px_SN bb n) C M q.2.1).1 [] x ∧ (px_wt (px_SN bb n) C M q.2.2).1 [] x)) ∧ px_ck (px_SN bb n) (l.drop (x2.toNat + 1)) C M ((u.1 66 47).toNat + 1) := by
    rw [hd]
    constructor
    · rintro (⟨z, _⟩ | ⟨z, _⟩ | ⟨_, z1, z2, z3⟩)
      · omega
      · omega
      · exact ⟨⟨z1, z2⟩, z3⟩
    · rintro ⟨⟨z1, z2⟩, z3⟩
      exact Or.inr (Or.inr ⟨h5, z1, z2, z3⟩)
  rw [hd] at hn
  refine ⟨by rw [e24]; exact hl, ?_, fun e => ⟨C, M, ?_, ?_, ?_, wr_LE_e hLE h0 hq h5 (vk_U_Q hf.2.2.2.1 hf.2.2.1) (h.1 e).1 (hsd e)⟩, fun e hc => ?_⟩
  · by_cases e : t.1 66 40 = 0
    · have := (h.1 e).1
      omega
    · exact t47 e
  · exact px_E_up hE hf.2.2.1 (fun p hp => (hf.1 p (fun w hw => by
      simp only [List.mem_cons, List.not_mem_nil, or_false] at hw
      rcases hw with rfl | rfl | rfl | rfl | rfl <;> (dsimp only; omega))).2) (hf.2.1 3 rfl)
  · obtain ⟨a1, a2, a3⟩ := h.1 e
    rw [hi, step, ex, show (t.1 66 47).toNat = (u.1 66 47).toNat + 1 by omega]
    exact ⟨fun z => z.2, fun z => ⟨⟨by omega, a3⟩, z⟩⟩
  · obtain ⟨a1, _⟩ := h.1 e
    rw [ex, show (t.1 66 47).toNat = (u.1 66 47).toNat + 1 by omega]
    simp only [px_c3, h5] at hn
    simp at hn
    omega
  · obtain ⟨⟨z1, z2⟩, _⟩ := step.mp (hi.mp hc)
    exact h.2 e ⟨by omega, z2⟩
theorem wr_LJ_d {bb : Nat → Int} {n mt : Int} {l : List ((Int × Int × qx_T) × (px_N × px_N))} {u t : sx_S} {x2 : Int} {q : ((Int × Int × qx_T) × (px_N × px_N))} {C M : List (Int × qx_T)} (hl : (l.length : Int) = u.1 66 24) (h47 : 0 ≤ u.1 66 47) (e24 : t.1 66 24 = u.1 66 24) (e47 : t.1 66 47 = u.1 66 47) (hi : px_ck (px_SN bb n) l [] [] 0 ↔ px_ck (px_SN bb n) (l.drop x2.toNat) C M (u.1 66 47).toNat) (h0 : 0 ≤ x2) (hq : l[x2.toNat]? = some q) (hn : (C.length + px_c3 3 (l.drop x2.toNat) = px_c3 3 l ∧ M.length + px_c3 4 (l.drop x2.toNat) = px_c3 4 l ∧ (u.1 66 47).toNat + px_c3 5 (l.drop x2.toNat) = px_c3 5 l)) (hk : (u.2.1 85 x2.toNat = 2 ∧ q.1.1 = 3) ∨ (u.2.1 85 x2.toNat = 3 ∧ q.1.1 = 4)) (hLE : wr_LE bb n l x2 C M u) (hU : vk_U u t) (h98 : t.2.1 98 = u.2.1 98) (h99 : t.2.1 99 = u.2.1 99) (hE : px_E bb n mt C M u) (h89 : u.2.1 89 x2.toNat = (qx_at q.1.2.2 : Int)) (hd2 : px_d2 bb n C M q.1.2.1 (((u.2.1 85 x2.toNat = 2 → u.1 66 42 ≤ 7) ∧ (u.2.1 85 x2.toNat ≠ 2 → u.1 66 45 ≤ 4)) ∧ u.2.1 89 x2.toNat ≤ 5) t) (hc1 : t.1 66 40 = 0 → u.2.1 85 x2.toNat = 2 → px_E bb n mt (C ++ [(q.1.2.1, q.1.2.2)]) M t) (hc2 : t.1 66 40 = 0 → u.2.1 85 x2.toNat ≠ 2 → px_E bb n mt C (M ++ [(q.1.2.1, q.1.2.2)]) t) : wr_LJ bb n mt l t (x2 + 1) := by
  intro _
  have hd := px_drop hq
  have ex : (x2 + 1).toNat = x2.toNat + 1 := by omega
  have lC := ((hE trivial).2.1 trivial).1
  have lM := ((hE trivial).2.2 trivial).1
  rw [h89] at hd2
  have d2 := hd2 trivial
  refine ⟨by rw [e24]; exact hl, by omega, fun e => ?_, fun e hc => ?_⟩
  · obtain ⟨⟨⟨a1, a2⟩, a3⟩, a4, a5⟩ := d2.mp e
    rcases hk with ⟨k1, k2⟩ | ⟨k1, k2⟩
    · refine ⟨_, M, hc1 e k1, ?_, ?_, (wr_LE_d hLE h0 hq hU e47 h98 h99).1 k2⟩
      rotate_left
      · rw [ex, e47, List.length_append, List.length_singleton]
        rw [hd] at hn
        simp only [px_c3, k2] at hn
        simp at hn
        omega
      rw [hi, hd, ex, e47]
      constructor
      · rintro (⟨_, _, _, _, _, z⟩ | ⟨z, _⟩ | ⟨z, _⟩)
        · exact z
        · omega
        · omega
      · exact fun z => Or.inl ⟨k2, by have := a1 k1; omega, a4, a5, by omega, z⟩
    · refine ⟨C, _, hc2 e (by omega), ?_, ?_, (wr_LE_d hLE h0 hq hU e47 h98 h99).2 k2⟩
      rotate_left
      · rw [ex, e47, List.length_append, List.length_singleton]
        rw [hd] at hn
        simp only [px_c3, k2] at hn
        simp at hn
        omega
      rw [hi, hd, ex, e47]
      constructor
      · rintro (⟨z, _⟩ | ⟨_, _, _, _, _, z⟩ | ⟨z, _⟩)
        · omega
        · exact z
        · omega
      · exact fun z => Or.inr (Or.inl ⟨k2, by have := a2 (by omega); omega, a4, a5, by omega, z⟩)
  · refine e (d2.mpr ?_)
    have hc2' := hi.mp hc
    rw [hd] at hc2'
    rcases hc2' with ⟨z1, z2, z3, z4, z5, _⟩ | ⟨z1, z2, z3, z4, z5, _⟩ | ⟨z, _⟩
    · exact ⟨⟨⟨fun _ => by omega, fun z => by omega⟩, by omega⟩, z3, z4⟩
    · exact ⟨⟨⟨fun z => by omega, fun _ => by omega⟩, by omega⟩, z3, z4⟩
    · omega
/-- the constants, the unknowns, the bytes of the text in memory -/
def wr_C (b : Nat → Int) (n : Int) (l : List vl_I) (s : sx_S) : Prop := True → ∃ (bb : Nat → Int) (mt : Int), (∀ k : Nat, (k : Int) < n → bb k = b k) ∧ px_E bb n mt (vl_kf l []) (vl_mf l []) s
theorem wr_C_c {b : Nat → Int} {n : Int} {l : List vl_I} {s t : sx_S} (ha : ∀ p, ((68 ≤ p ∧ p ≤ 73) ∨ (95 ≤ p ∧ p ≤ 97) ∨ p = 123) → t.2.1 p = s.2.1 p) (hf : ∀ k, k = 3 ∨ k = 9 ∨ k = 42 ∨ k = 45 → t.1 66 k = s.1 66 k) (h : wr_C b n l s) : wr_C b n l t := fun _ => by
  obtain ⟨bb, mt, h1, h2⟩ := h trivial
  refine ⟨bb, mt, h1, fun _ => ?_⟩
  obtain ⟨a, c, d⟩ := h2 trivial
  have tu : rf_tu s t := fun j => ⟨by rw [hf 9 (by decide)]; exact Int.le_refl _, fun _ => ⟨by rw [ha 72 (by decide)], by rw [ha 73 (by decide)]⟩⟩
  refine ⟨fun _ => ?_, px_DL_up c (hf 42 (by decide)) tu (ha 95 (by decide)) (ha 96 (by decide)), px_DL_up d (hf 45 (by decide)) tu (ha 97 (by decide)) (ha 123 (by decide))⟩
  obtain ⟨a1, a2, a3⟩ := a trivial
  refine ⟨(ha 68 (by decide)).trans a1, (hf 3 (by decide)).trans a2, fun k hk => ?_⟩
  rw [ha 69 (by decide), ha 70 (by decide), ha 71 (by decide)]
  exact a3 k hk
theorem wr_C_F {b : Nat → Int} {n : Int} {l : List vl_I} {V : List (Nat × Nat)} {s t : sx_S} (hF : cx_F V s t) (hV : ∀ q ∈ V, q.2 < 68 ∨ (100 ≤ q.1 ∧ q.2 < 123) ∨ 123 < q.1) (hf : ∀ k, k = 3 ∨ k = 9 ∨ k = 42 ∨ k = 45 → t.1 66 k = s.1 66 k) (h : wr_C b n l s) : wr_C b n l t := wr_C_c (fun p hp => ((hF p).1 (fun q hq => by
  have := hV q hq
  omega)).2) hf h
end
