/-! ===== the desk's size, letter, side, sideLetter, exactly ===== -/
theorem wk_T_mk {tv tc : Int → rf_T} {tm : Int → Int → rf_T} {S : vx_S} {th : Int → rf_N} {nC nC' : Int} {bs : Nat} {a : List (Int × List Int)} {i : Nat} {A : rf_N} {c : List (Int × Int)} {L mk : Int} (e : nC' = nC) (h : wk_T tv tc tm S th nC bs a i A c L mk) : wk_T tv tc tm S th nC' bs a i A c L mk := by
  rw [e]
  exact h
/-- writing leaves what the desk holds -/
theorem wk_D_st {b : Nat → Int} {n : Int} {l : List vl_I} {tv tc : Int → rf_T} {n0 : Int} {Qs : (Int → rf_N) → Prop} {th : Int → rf_N} {rk : Int → Nat} {nm : Int → List Int} {s t : sx_S} {S : vx_S} {PR : Int → List (Int × Int)} {tm : Int → Int → rf_T} {TV : Int → qx_T → Prop} {AR : Nat → List Int} {tl : vw_L} (z1 : wy_Z b n l TV AR tl S th (wk_ht tm) nm) (z2 : wk_X tv tc n0 Qs th rk nm s S PR tm (wz_al th (vl_mf l []).length)) (z4 : s.1 22 2 = ((vl_mf l []).length : Int) ∧ ∀ (k : Nat) p, (vl_mf l [])[k]? = some p → ∃ A, dv_at s S.2.2.2.2 A (s.2.1 25 k) ∧ wk_T tv tc tm S th (s.1 19 2) 0 (wz_al th (vl_mf l []).length) 0 A [] 0 0 ∧ wd_v th S.2.2.2.2 (A, dv_lk [], 0) = vq_lm (rf_args (qx_sh p.2)).length (th (k : Int))) (z5 : s.1 18 10 = (tl.length : Int) ∧ ∀ (k : Nat) A B, tl[k]? = some (A, B) → (dv_at s S.2.2.2.2 A (s.2.1 26 (2 * k)) ∧ wk_T tv tc tm S th (s.1 19 2) 0 (wz_al th (vl_mf l []).length) 0 A [] 0 0 ∧ wd_v th S.2.2.2.2 (A, dv_lk [], 0) = vx_val th AR A (dv_lk []) 0) ∧ dv_at s S.2.2.2.2 B (s.2.1 26 (2 * k + 1)) ∧ wk_T tv tc tm S th (s.1 19 2) 0 (wz_al th (vl_mf l []).length) 0 B [] 0 0 ∧ wd_v th S.2.2.2.2 (B, dv_lk [], 0) = vx_val th AR B (dv_lk []) 0) (hI : cx_I t) (hf : wk_fw s t) (z3 : wk_ink (wk_E nm (wk_ht tm)) th S (wz_al th (vl_mf l []).length) t) : wk_D b n l t := fun _ => by
  have hF := (hf trivial).1
  have nf : dv_nf (s.1 11 6) S.2.2.2.2 S.2.2.2.2 s t := dv_nf_F _ hF (by decide)
  have e19 : t.1 19 2 = s.1 19 2 := by rw [(hF.same 19 rfl).1]
  refine ⟨tv, tc, n0, Qs, th, rk, nm, S, PR, tm, TV, AR, tl, z1, wk_X_fw z2 hI hf, z3, ⟨by rw [(hF.same 22 rfl).1]; exact z4.1, fun k p hp => ?_⟩, by rw [(hF.same 18 rfl).1]; exact z5.1, fun k A B hk => ?_⟩
  · obtain ⟨A, a1, a2, a3⟩ := z4.2 k p hp
    exact ⟨A, by rw [(hF.same 25 rfl).2]; exact dv_at_fr (Int.le_refl _) nf a1, wk_T_mk e19 a2, a3⟩
  · obtain ⟨⟨a1, a2, a5⟩, a3, a4, a6⟩ := z5.2 k A B hk
    rw [(hF.same 26 rfl).2]
    exact ⟨⟨dv_at_fr (Int.le_refl _) nf a1, wk_T_mk e19 a2, a5⟩, dv_at_fr (Int.le_refl _) nf a3, wk_T_mk e19 a4, a6⟩
/-- other calls leave it too -/
theorem wk_D_F {b : Nat → Int} {n : Int} {l : List vl_I} {s t : sx_S} {V : List (Nat × Nat)} (hI : cx_I t) (hF : cx_F V s t) (hV : cx_le V [(0, 1), (66, 124)] = true) (h : wk_D b n l s) : wk_D b n l t := fun _ => by
  obtain ⟨tv, tc, n0, Qs, th, rk, nm, S, PR, tm, TV, AR, tl, z1, z2, z3, z4, z5⟩ := h trivial
  have hF1 : cx_F [(0, 1), (66, 124)] s t := cx_F_step hF hV (cx_F_refl _ _)
  have nf : dv_nf (s.1 11 6) S.2.2.2.2 S.2.2.2.2 s t := dv_nf_F _ hF1 (by decide)
  obtain ⟨hG, hN, hS, hB, hnm, hty, htc⟩ := z2 trivial
  obtain ⟨g1, g2, g3, g4, ⟨_, g6⟩, g7, g8⟩ := hG trivial
  have e19 : t.1 19 = s.1 19 := (hF1.same 19 rfl).1
  have e19' : t.1 19 2 = s.1 19 2 := by rw [e19]
  have e11 : t.1 11 = s.1 11 := (hF1.same 11 rfl).1
  have e17 : t.2.1 17 = s.2.1 17 := (hF1.same 17 rfl).2
  have e55 : t.1 55 = s.1 55 := (hF1.same 55 rfl).1
  have e56 : t.1 56 = s.1 56 := (hF1.same 56 rfl).1
  have e65 : t.2.1 65 = s.2.1 65 := (hF1.same 65 rfl).2
  refine ⟨tv, tc, n0, Qs, th, rk, nm, S, PR, tm, TV, AR, tl, z1, fun _ => ⟨fun _ => ⟨hI, dv_M_fr (Int.le_refl _) (by rw [e11]) nf (by rw [(hF1.same 33 rfl).1]) (hF1.same 34 rfl).2 (hF1.same 35 rfl).2 (hF1.same 36 rfl).2 (hF1.same 37 rfl).2 g2, g3, g4, ⟨trivial, by rw [(hF1.same 39 rfl).1]; exact g6⟩, g7, g8⟩, wd_N_same (by rw [e55]) (hF1.same 63 rfl).2 (hF1.same 64 rfl).2 hN, hS, by rw [e19]; exact hB, fun x x0 x1 => ?_, fun v hv => ?_, htc⟩, fun _ => ?_, ⟨by rw [(hF1.same 22 rfl).1]; exact z4.1, fun k p hp => ?_⟩, by rw [(hF1.same 18 rfl).1]; exact z5.1, fun k A B hk => ?_⟩
  · obtain ⟨n1, n2⟩ := hnm x x0 (by omega)
    obtain ⟨d1, d2⟩ := wk_Nm_fr e19 (hF1.same 20 rfl).2 (hF1.same 2 rfl).1 (hF1.same 3 rfl).2 (hF1.same 5 rfl).2 (hF1.same 6 rfl).2 n1
    exact ⟨d1, by rw [d2]; exact n2⟩
  · obtain ⟨v1, v2⟩ := hty v hv
    rw [e11, e17]
    exact ⟨v1, wk_ty_c (by rw [(hF1.same 8 rfl).1]) (hF1.same 9 rfl).2 (hF1.same 10 rfl).2 v2⟩
  · have z3' := z3 trivial
    rw [e55, e56]
    rcases z3' with q | ⟨A, a1, a2⟩
    · exact Or.inl q
    · refine Or.inr ⟨A, dv_at_fr (Int.le_refl _) nf a1, ?_⟩
      rcases a2 with ⟨c1, c2, c3⟩ | c
      · exact Or.inl ⟨c1, wk_Dp_c (by rw [e55]) e65 c2, c3⟩
      · exact Or.inr c
  · obtain ⟨A, a1, a2, a3⟩ := z4.2 k p hp
    exact ⟨A, by rw [(hF1.same 25 rfl).2]; exact dv_at_fr (Int.le_refl _) nf a1, wk_T_mk e19' a2, a3⟩
  · obtain ⟨⟨a1, a2, a5⟩, a3, a4, a6⟩ := z5.2 k A B hk
    rw [(hF1.same 26 rfl).2]
    exact ⟨⟨dv_at_fr (Int.le_refl _) nf a1, wk_T_mk e19' a2, a5⟩, dv_at_fr (Int.le_refl _) nf a3, wk_T_mk e19' a4, a6⟩
/-- the number of bytes that is answered for a text o -/
def wy_sz (o : List Int) : Int := if o.length ≤ 4000 then (o.length : Int) else -1
/-- the byte that is answered -/
def wy_by (o : List Int) (i : Int) : Int := if o.length ≤ 4000 ∧ 0 ≤ i ∧ i < (o.length : Int) then o.getD i.toNat (-1) else -1
/-- o is what is written of the unknown k -/
def wy_O (b : Nat → Int) (n : Int) (l : List vl_I) (k : Int) (o : List Int) : Prop := True → ∃ (TV : Int → qx_T → Prop) (AR : Nat → List Int) (tl : vw_L) (S : vx_S) (th : Int → rf_N) (ht : Int → List rf_T) (nm : Int → List Int) (p : Int × qx_T), wy_Z b n l TV AR tl S th ht nm ∧ (vl_mf l [])[k.toNat]? = some p ∧ o = wy_o l th ht nm p k.toNat
theorem wy_O_fun {b : Nat → Int} {n : Int} {l : List vl_I} {k : Int} {o o' : List Int} (h : wy_O b n l k o) (h' : wy_O b n l k o') : o = o' := by
  obtain ⟨TV, AR, tl, S, th, ht, nm, p, a1, a2, a3⟩ := h trivial
  obtain ⟨TV', AR', tl', S', th', ht', nm', p', b1, b2, b3⟩ := h' trivial
  rw [a2] at b2
  have ep : p = p' := Option.some.inj b2
  subst ep
  rw [a3, b3]
  exact wy_Z_o a1 b1 a2
theorem wk_Dp_at {t : sx_S} {o : List Int} (h : wb_Dp t o) {i : Int} (i0 : 0 ≤ i) (i1 : i < (o.length : Int)) (i4 : i < 4000) : t.2.1 65 i.toNat = o.getD i.toNat (-1) := by
  have h1 := h.2 i.toNat (by omega) (by omega)
  rw [List.getD_eq_getElem?_getD, h1]
  rfl
/-- what write answers for one of the roots -/
theorem c_K_root {b : Nat → Int} {n : Int} {l : List vl_I} {sL : Nat} {sx : Nat → Int32} (hsL : sL ≤ 3072) (d : Nat) (hd : 22 ≤ d) : ∀ (z : Int) (s : sx_S) (K : Int → sx_S → Prop) (PO : List Int → Prop), wk_D b n l s → ((∃ k : Nat, k < (vl_mf l []).length ∧ z = s.2.1 25 k ∧ ∀ o, wy_O b n l (k : Int) o → PO o) ∨ (∃ (k : Nat) (si : Int), (k : Int) < s.1 18 10 ∧ ((si = 0 ∧ z = s.2.1 26 (2 * k)) ∨ (si ≠ 0 ∧ z = s.2.1 26 (2 * k + 1))) ∧ ∀ o, wy_Os b n l (k : Int) si o → PO o)) → (∀ zz t o, cx_I t → wk_fw s t → wk_D b n l t → PO o → zz = wy_sz o → (o.length ≤ 4000 → wb_Dp t o) → K zz t) → sx_C sL sx d 123 [.inr (.inl 55), .inl z] s K := by
  intro z s K PO hD hz hK
  obtain ⟨tv, tc, n0, Qs, th, rk, nm, S, PR, tm, TV, AR, tl, z1, z2, z3, z4, z5⟩ := hD trivial
  have key : ∀ A, dv_at s S.2.2.2.2 A z → wk_T tv tc tm S th (s.1 19 2) 0 (wz_al th (vl_mf l []).length) 0 A [] 0 0 → PO (wk_out (wk_E nm (wk_ht tm)) th S (wz_al th (vl_mf l []).length) A) → sx_C sL sx d 123 [.inr (.inl 55), .inl z] s K := fun A a1 a2 hp => by
    refine c_k_write hsL d hd S PR tm _ A z s K z2 a1 a2 z3 (fun zz t t1 t2 t3 t4 => hK zz t _ t1 t2 (wk_D_st z1 z2 z4 z5 t1 t2 t3) hp ?_ (fun q => ?_))
    · unfold wy_sz
      rcases t4 with ⟨c1, c2, _⟩ | ⟨c1, c2⟩
      · rw [if_pos c1]
        exact c2
      · rw [if_neg (by omega)]
        exact c2
    · rcases t4 with ⟨_, _, c3⟩ | ⟨c1, _⟩
      · exact c3
      · omega
  rcases hz with ⟨k, k1, k2, k3⟩ | ⟨k, si, k1, k2, k3⟩
  · obtain ⟨A, a1, a2, a3⟩ := z4.2 k _ (List.getElem?_eq_getElem k1)
    rw [← k2] at a1
    refine key A a1 a2 (k3 _ (fun _ => ⟨TV, AR, tl, S, th, wk_ht tm, nm, _, z1, by rw [Int.toNat_natCast]; exact List.getElem?_eq_getElem k1, ?_⟩))
    unfold wk_out wy_o
    rw [a3, Int.toNat_natCast]
  · have hk : k < tl.length := by have := z5.1; omega
    obtain ⟨l1, l2⟩ := vs_tl_mk (z1 trivial).1.1
    have hke : k < (vl_eq l [] []).length := by omega
    have hpe := List.getElem?_eq_getElem hke
    obtain ⟨W, V, x, y, w1, w2, w3⟩ := l2 k _ hpe
    obtain ⟨⟨a1, a2, a5⟩, a3, a4, a6⟩ := z5.2 k W V w1
    rcases k2 with ⟨k2, k4⟩ | ⟨k2, k4⟩
    · rw [← k4] at a1
      refine key _ a1 a2 (k3 _ (fun _ => ⟨TV, AR, tl, S, th, wk_ht tm, nm, _, W, x, z1, by rw [Int.toNat_natCast]; exact hpe, by rw [if_pos k2]; exact w2, ?_⟩))
      unfold wk_out
      rw [a5]
    · rw [← k4] at a3
      refine key _ a3 a4 (k3 _ (fun _ => ⟨TV, AR, tl, S, th, wk_ht tm, nm, _, V, y, z1, by rw [Int.toNat_natCast]; exact hpe, by rw [if_neg k2]; exact w3, ?_⟩))
      unfold wk_out
      rw [a6]
theorem c_K_size {b : Nat → Int} {n : Int} {l : List vl_I} {sL : Nat} {sx : Nat → Int32} (hsL : sL ≤ 3072) (d : Nat) (hd : 26 ≤ d) : ∀ (a0 : Int) (s : sx_S) (K : Int → sx_S → Prop), cx_I s → (-2147483648 ≤ a0 ∧ a0 ≤ 2147483647) → (s.1 0 2 ≠ 0 → s.1 0 3 = 0 → wk_D b n l s) → (∀ zz t, cx_I t → wk_fw s t → (s.1 0 2 ≠ 0 → s.1 0 3 = 0 → wk_D b n l t) → (((s.1 0 2 ≠ 0 ∧ s.1 0 3 = 0 ∧ 0 ≤ a0 ∧ a0 < s.1 22 2) ∧ ∃ o, wy_O b n l a0 o ∧ zz = wy_sz o) ∨ (¬ (s.1 0 2 ≠ 0 ∧ s.1 0 3 = 0 ∧ 0 ≤ a0 ∧ a0 < s.1 22 2) ∧ zz = -1)) → K zz t) → sx_C sL sx d 143 [.inr (.inl 0), .inl a0] s K := by
  intro a0 s K hI p0 hD hK
  refine c_k_size hsL d hd a0 s K (fun zz t => cx_I t ∧ wk_fw s t ∧ wk_D b n l t ∧ (-1 ≤ zz ∧ zz ≤ 4000) ∧ ∃ o, wy_O b n l a0 o ∧ zz = wy_sz o) hI p0 (fun zz t h => h.2.2.2.1) (fun c d' hd' K' hK' => ?_) (fun c zz t h => hK zz t h.1 h.2.1 (fun _ _ => h.2.2.1) (Or.inl ⟨c, h.2.2.2.2⟩)) (fun c => hK (-1) s hI (wk_fw_of (wk_fr_refl s)) hD (Or.inr ⟨c, rfl⟩))
  have hDs := hD c.1 c.2.1
  have n22 : s.1 22 2 = ((vl_mf l []).length : Int) := by
    obtain ⟨_, _, _, _, _, _, _, _, _, _, _, _, _, _, _, _, z4, _⟩ := hDs trivial
    exact z4.1
  refine c_K_root hsL d' hd' _ s K' (fun o => wy_O b n l a0 o) hDs (Or.inl ⟨a0.toNat, by omega, rfl, fun o ho => by rw [Int.toNat_of_nonneg c.2.2.1] at ho; exact ho⟩) (fun zz t o t1 t2 t3 t4 t5 _ => hK' zz t ⟨t1, t2, t3, ?_, o, t4, t5⟩)
  rw [t5]
  unfold wy_sz
  by_cases q : o.length ≤ 4000
  · rw [if_pos q]
    omega
  · rw [if_neg q]
    omega
theorem c_K_letter {b : Nat → Int} {n : Int} {l : List vl_I} {sL : Nat} {sx : Nat → Int32} (hsL : sL ≤ 3072) (d : Nat) (hd : 26 ≤ d) : ∀ (a0 a1 : Int) (s : sx_S) (K : Int → sx_S → Prop), cx_I s → (-2147483648 ≤ a0 ∧ a0 ≤ 2147483647) → (-2147483648 ≤ a1 ∧ a1 ≤ 2147483647) → (s.1 0 2 ≠ 0 → s.1 0 3 = 0 → wk_D b n l s) → (∀ zz t, cx_I t → wk_fw s t → (s.1 0 2 ≠ 0 → s.1 0 3 = 0 → wk_D b n l t) → (-2147483648 ≤ zz ∧ zz ≤ 2147483647) → (((s.1 0 2 ≠ 0 ∧ s.1 0 3 = 0 ∧ 0 ≤ a0 ∧ a0 < s.1 22 2) ∧ ∃ o, wy_O b n l a0 o ∧ zz = wy_by o a1) ∨ (¬ (s.1 0 2 ≠ 0 ∧ s.1 0 3 = 0 ∧ 0 ≤ a0 ∧ a0 < s.1 22 2) ∧ zz = -1)) → K zz t) → sx_C sL sx d 144 [.inr (.inl 0), .inl a0, .inl a1] s K := by
  intro a0 a1 s K hI p0 p1 hD hK
  refine c_k_letter hsL d hd a0 a1 s K (fun zz t => cx_I t ∧ wk_fw s t ∧ wk_D b n l t ∧ (-1 ≤ zz ∧ zz ≤ 4000) ∧ ∃ o, wy_O b n l a0 o ∧ zz = wy_sz o ∧ (o.length ≤ 4000 → wb_Dp t o)) hI p0 p1 (fun zz t h => ⟨h.1, h.2.2.2.1⟩) (fun c d' hd' K' hK' => ?_) (fun c zz t h => ?_) (fun c => hK (-1) s hI (wk_fw_of (wk_fr_refl s)) hD (by decide) (Or.inr ⟨c, rfl⟩))
  · have hDs := hD c.1 c.2.1
    have n22 : s.1 22 2 = ((vl_mf l []).length : Int) := by
      obtain ⟨_, _, _, _, _, _, _, _, _, _, _, _, _, _, _, _, z4, _⟩ := hDs trivial
      exact z4.1
    refine c_K_root hsL d' hd' _ s K' (fun o => wy_O b n l a0 o) hDs (Or.inl ⟨a0.toNat, by omega, rfl, fun o ho => by rw [Int.toNat_of_nonneg c.2.2.1] at ho; exact ho⟩) (fun zz t o t1 t2 t3 t4 t5 t6 => hK' zz t ⟨t1, t2, t3, ?_, o, t4, t5, t6⟩)
    rw [t5]
    unfold wy_sz
    by_cases q : o.length ≤ 4000
    · rw [if_pos q]
      omega
    · rw [if_neg q]
      omega
  · obtain ⟨t1, t2, t3, _, o, t4, t5, t6⟩ := h
    have fin : ∀ y, (-2147483648 ≤ y ∧ y ≤ 2147483647) → y = wy_by o a1 → K y t := fun y ry hy => hK y t t1 t2 (fun _ _ => t3) ry (Or.inl ⟨c, o, t4, hy⟩)
    have ra := t1.arr 65 (by decide) rfl a1.toNat
    unfold wy_sz at t5
    unfold wy_by at fin
    by_cases q : o.length ≤ 4000
    · rw [if_pos q] at t5
      have dp := t6 q
      have d10 := dp.1
      refine ⟨fun z0 => by omega, fun _ q1 q2 q3 => fin _ (by omega) ?_, fun _ q1 => fin _ (by decide) ?_⟩
      · rw [if_pos ⟨q, q1, by omega⟩]
        exact wk_Dp_at dp q1 (by omega) q3
      · rw [if_neg (by omega)]
    · rw [if_neg q] at t5
      refine ⟨fun _ => fin _ (by decide) (by rw [if_neg (fun z => q z.1)]), fun z0 => by omega, fun z0 => by omega⟩
theorem wy_sz_r (o : List Int) : -1 ≤ wy_sz o ∧ wy_sz o ≤ 4000 := by
  unfold wy_sz
  by_cases c : o.length ≤ 4000
  · rw [if_pos c]
    omega
  · rw [if_neg c]
    decide
theorem c_K_side {b : Nat → Int} {n : Int} {l : List vl_I} {sL : Nat} {sx : Nat → Int32} (hsL : sL ≤ 3072) (d : Nat) (hd : 26 ≤ d) : ∀ (a0 a1 : Int) (s : sx_S) (K : Int → sx_S → Prop), cx_I s → (-2147483648 ≤ a0 ∧ a0 ≤ 2147483647) → (-2147483648 ≤ a1 ∧ a1 ≤ 2147483647) → (s.1 0 2 ≠ 0 → s.1 0 3 = 0 → wk_D b n l s) → (∀ zz t, cx_I t → wk_fw s t → (s.1 0 2 ≠ 0 → s.1 0 3 = 0 → wk_D b n l t) → (((s.1 0 2 ≠ 0 ∧ s.1 0 3 = 0 ∧ (0 ≤ a0 ∧ a0 < s.1 18 10) ∧ 0 ≤ a1 ∧ a1 ≤ 1) ∧ ∃ o, wy_Os b n l a0 a1 o ∧ zz = wy_sz o) ∨ (¬ (s.1 0 2 ≠ 0 ∧ s.1 0 3 = 0 ∧ (0 ≤ a0 ∧ a0 < s.1 18 10) ∧ 0 ≤ a1 ∧ a1 ≤ 1) ∧ zz = -1)) → K zz t) → sx_C sL sx d 145 [.inr (.inl 0), .inl a0, .inl a1] s K := by
  intro a0 a1 s K hI p0 p1 hD hK
  refine c_k_side hsL d hd a0 a1 s K (fun zz t => cx_I t ∧ wk_fw s t ∧ wk_D b n l t ∧ ∃ o, wy_Os b n l a0 a1 o ∧ zz = wy_sz o) hI p0 p1 (fun zz t h => ?_) (fun c d' hd' K' hK' => ?_) (fun c zz t h => hK zz t h.1 h.2.1 (fun _ _ => h.2.2.1) (Or.inl ⟨c, h.2.2.2⟩)) (fun c => hK (-1) s hI (wk_fw_of (wk_fr_refl s)) hD (Or.inr ⟨c, rfl⟩))
  · obtain ⟨_, _, _, o, _, h⟩ := h
    rw [h]
    exact wy_sz_r o
  · refine c_K_root hsL d' hd' _ s K' (fun o => wy_Os b n l a0 a1 o) (hD c.1 c.2.1) (Or.inr ⟨a0.toNat, a1, by omega, ?_, fun o ho => by rw [Int.toNat_of_nonneg c.2.2.1.1] at ho; exact ho⟩) (fun zz t o t1 t2 t3 t4 t5 _ => hK' zz t ⟨t1, t2, t3, o, t4, t5⟩)
    by_cases q : a1 = 0
    · exact Or.inl ⟨q, by rw [show (2 * a0 + a1).toNat = 2 * a0.toNat by omega]⟩
    · exact Or.inr ⟨q, by rw [show (2 * a0 + a1).toNat = 2 * a0.toNat + 1 by omega]⟩
theorem c_K_sideLetter {b : Nat → Int} {n : Int} {l : List vl_I} {sL : Nat} {sx : Nat → Int32} (hsL : sL ≤ 3072) (d : Nat) (hd : 26 ≤ d) : ∀ (a0 a1 a2 : Int) (s : sx_S) (K : Int → sx_S → Prop), cx_I s → (-2147483648 ≤ a0 ∧ a0 ≤ 2147483647) → (-2147483648 ≤ a1 ∧ a1 ≤ 2147483647) → (-2147483648 ≤ a2 ∧ a2 ≤ 2147483647) → (s.1 0 2 ≠ 0 → s.1 0 3 = 0 → wk_D b n l s) → (∀ zz t, cx_I t → wk_fw s t → (s.1 0 2 ≠ 0 → s.1 0 3 = 0 → wk_D b n l t) → (-2147483648 ≤ zz ∧ zz ≤ 2147483647) → (((s.1 0 2 ≠ 0 ∧ s.1 0 3 = 0 ∧ (0 ≤ a0 ∧ a0 < s.1 18 10) ∧ 0 ≤ a1 ∧ a1 ≤ 1) ∧ ∃ o, wy_Os b n l a0 a1 o ∧ zz = wy_by o a2) ∨ (¬ (s.1 0 2 ≠ 0 ∧ s.1 0 3 = 0 ∧ (0 ≤ a0 ∧ a0 < s.1 18 10) ∧ 0 ≤ a1 ∧ a1 ≤ 1) ∧ zz = -1)) → K zz t) → sx_C sL sx d 146 [.inr (.inl 0), .inl a0, .inl a1, .inl a2] s K := by
  intro a0 a1 a2 s K hI p0 p1 p2 hD hK
  refine c_k_sideLetter hsL d hd a0 a1 a2 s K (fun zz t => cx_I t ∧ wk_fw s t ∧ wk_D b n l t ∧ (-1 ≤ zz ∧ zz ≤ 4000) ∧ ∃ o, wy_Os b n l a0 a1 o ∧ zz = wy_sz o ∧ (o.length ≤ 4000 → wb_Dp t o)) hI p0 p1 p2 (fun zz t h => ⟨h.1, h.2.2.2.1⟩) (fun c d' hd' K' hK' => ?_) (fun c zz t h => ?_) (fun c => hK (-1) s hI (wk_fw_of (wk_fr_refl s)) hD (by decide) (Or.inr ⟨c, rfl⟩))
  · refine c_K_root hsL d' hd' _ s K' (fun o => wy_Os b n l a0 a1 o) (hD c.1 c.2.1) (Or.inr ⟨a0.toNat, a1, by omega, ?_, fun o ho => by rw [Int.toNat_of_nonneg c.2.2.1.1] at ho; exact ho⟩) (fun zz t o t1 t2 t3 t4 t5 t6 => hK' zz t ⟨t1, t2, t3, by rw [t5]; exact wy_sz_r o, o, t4, t5, t6⟩)
    by_cases q : a1 = 0
    · exact Or.inl ⟨q, by rw [show (2 * a0 + a1).toNat = 2 * a0.toNat by omega]⟩
    · exact Or.inr ⟨q, by rw [show (2 * a0 + a1).toNat = 2 * a0.toNat + 1 by omega]⟩
  · obtain ⟨t1, t2, t3, _, o, t4, t5, t6⟩ := h
    have fin : ∀ y, (-2147483648 ≤ y ∧ y ≤ 2147483647) → y = wy_by o a2 → K y t := fun y ry hy => hK y t t1 t2 (fun _ _ => t3) ry (Or.inl ⟨c, o, t4, hy⟩)
    have ra := t1.arr 65 (by decide) rfl a2.toNat
    unfold wy_sz at t5
    unfold wy_by at fin
    by_cases q : o.length ≤ 4000
    · rw [if_pos q] at t5
      have dp := t6 q
      have d10 := dp.1
      refine ⟨fun z0 => by omega, fun _ q1 q2 q3 => fin _ (by omega) ?_, fun _ q1 => fin _ (by decide) ?_⟩
      · rw [if_pos ⟨q, q1, by omega⟩]
        exact wk_Dp_at dp q1 (by omega) q3
      · rw [if_neg (by omega)]
    · rw [if_neg q] at t5
      refine ⟨fun _ => fin _ (by decide) (by rw [if_neg (fun z => q z.1)]), fun z0 => by omega, fun z0 => by omega⟩
