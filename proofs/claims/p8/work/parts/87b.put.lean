section
/-! ===== the reference's paper, byte by byte ===== -/
def wb_Sp (a : Int) (p : Nat → Int) (o : List Int) : Prop := (((o.length : Int) ≤ 4000 ∧ a = (o.length : Int)) ∨ (4000 < (o.length : Int) ∧ a = 4001)) ∧ ∀ i : Nat, i < o.length → i < 4000 → o[i]? = some (p i)
/-- the name of the constant k, as memory has it -/
def wb_nm (s : sx_S) (k : Int) : List Int := (List.range (s.2.1 71 (s.2.1 95 k.toNat).toNat).toNat).map (fun j : Nat => s.2.1 68 (s.2.1 70 (s.2.1 95 k.toNat).toNat + (j : Int)).toNat)
def wb_Rn (nm : Int → List Int) (s : sx_S) : Prop := True → ∀ k : Int, 0 ≤ k → k < s.1 66 42 → nm k = wb_nm s k ∧ (0 ≤ s.2.1 71 (s.2.1 95 k.toNat).toNat ∧ s.2.1 71 (s.2.1 95 k.toNat).toNat ≤ 240) ∧ 0 ≤ s.2.1 70 (s.2.1 95 k.toNat).toNat ∧ s.2.1 70 (s.2.1 95 k.toNat).toNat + s.2.1 71 (s.2.1 95 k.toNat).toNat ≤ s.1 66 3
/-- papers of bytes -/
def wb_E (nm : Int → List Int) : we_E (List Int) := ((fun c o => o ++ [c], wb_dg, nm), (wb_Sp, fun o => 4000 < o.length, wb_Rn nm), fun _ => [], fun _ => .leaf, fun _ => [], fun _ => 0)
theorem wb_L (nm : Int → List Int) : we_L (wb_E nm) := fun _ => by
  refine ⟨fun c o h => ?_, fun a p c o h g => ?_, fun a p o g h => ?_, fun s t ha e3 e42 h => ?_⟩
  · have h' : 4000 < o.length := h
    show 4000 < (o ++ [c]).length
    rw [List.length_append]
    omega
  · have h' : 4000 < o.length := h
    obtain ⟨g1, g2⟩ := g
    refine ⟨Or.inr ⟨?_, ?_⟩, fun i hi h4 => ?_⟩
    · show (4000 : Int) < ((o ++ [c]).length : Int)
      rw [List.length_append]
      omega
    · rcases g1 with ⟨g1, _⟩ | ⟨_, g1⟩
      · omega
      · exact g1
    · show (o ++ [c])[i]? = _
      rw [List.getElem?_append_left (by omega)]
      exact g2 i (by omega) h4
  · show 4000 < o.length
    rcases g.1 with ⟨g1, g2⟩ | ⟨g1, _⟩ <;> omega
  · intro _ k k0 k1
    have h' := h trivial k k0 (by omega)
    unfold wb_nm at h' ⊢
    rw [ha 68 (by omega) (by omega), ha 70 (by omega) (by omega), ha 71 (by omega) (by omega), ha 95 (by omega) (by omega), e3]
    exact h'
theorem wb_F (nm : Int → List Int) : ∀ p : Nat → Int, ∃ o, we_sa (wb_E nm) o ∧ (wb_E nm).2.1.1 4001 p o := fun p => by
  refine ⟨(List.range 4001).map p, ?_, Or.inr ⟨?_, rfl⟩, fun i hi h4 => ?_⟩
  · show 4000 < ((List.range 4001).map p).length
    rw [List.length_map, List.length_range]
    omega
  · show (4000 : Int) < (((List.range 4001).map p).length : Int)
    rw [List.length_map, List.length_range]
    decide
  · show ((List.range 4001).map p)[i]? = _
    rw [List.getElem?_map, List.getElem?_range (by omega)]
    rfl
theorem w_b_put {CALL : sx_Ca} {sL : Nat} {sx : Nat → Int32} {Q : Nat → sx_L → sx_S → Prop} {R : Int → sx_S → Prop} {s : sx_S} {a0 : Int} (hI : cx_I s) (p0 : -2147483648 ≤ a0 ∧ a0 ≤ 2147483647) (hK1 : s.1 66 86 < 4000 → R 0 (sx_uf s.1 66 86 (s.1 66 86 + 1), sx_ua s.2.1 122 (s.1 66 86).toNat a0, s.2.2)) (hK2 : s.1 66 86 = 4000 → R 0 (sx_uf s.1 66 86 (s.1 66 86 + 1), s.2)) (hK3 : 4000 < s.1 66 86 → R 0 (sx_uf s.1 66 86 (s.1 66 86), s.2)) : sx_wp true sL sx eX12_put CALL [] Q R 400 0 (sx_argsF 0 [.inr (.inl 66), .inl a0]) [] s := by
  have r := hI.fld 66 86 (by decide) rfl
  have zzy : sx_w true (s.1 66 86 + 1) = s.1 66 86 + 1 := px_wid (by omega) (by omega)
  rw [← zzy] at hK1 hK2
  have zzi : cx_I (s.1, sx_ua s.2.1 122 (s.1 66 86).toNat a0, s.2.2) := cx_I_ua rfl rfl hI (by omega) (by omega)
  repeat' (first | (with_reducible (rintro _ rfl)) | (with_reducible intro _) | (refine And.intro ?_ ?_))
  all_goals (try dsimp only at *)
  all_goals (first | trivial | assumption | omega | (exfalso; omega) | (exact hK1 (by omega)) | (exact hK2 (by omega)) | (exact hK3 (by omega)) | skip)
theorem c_b_put (nm : Int → List Int) {sL : Nat} {sx : Nat → Int32} (hsL : sL ≤ 3072) (d : Nat) (hd : 2 ≤ d) : ∀ (a0 : Int) (s : sx_S) (K : Int → sx_S → Prop), cx_I s → (-2147483648 ≤ a0 ∧ a0 ≤ 2147483647) → (∀ z t, we_PT (wb_E nm) s t [a0] → K z t) → sx_C sL sx d 203 [.inr (.inl 66), .inl a0] s K := by
  intro a0 s K hI p0 hK
  have r := hI.fld 66 86 (by decide) rfl
  obtain ⟨d, rfl⟩ : ∃ e, d = e + 2 := ⟨d - 2, by omega⟩
  refine sx_meth (wr := true) (n := 400) hsL (e := eX12_put) rfl (w_b_put (Q := fun _ _ _ => False) hI p0 (fun q => hK 0 _ ⟨?_, ?_, ?_, fun o ho => ?_⟩) (fun q => hK 0 _ ⟨?_, ?_, ?_, fun o ho => ?_⟩) (fun q => hK 0 _ ⟨?_, ?_, ?_, fun o ho => ?_⟩))
  · exact cx_I_uf rfl rfl (cx_I_ua rfl rfl hI (by omega) (by omega)) (by omega) (by omega)
  · exact cx_F_uf rfl (cx_F_ua rfl (cx_F_refl _ _))
  · exact rf_f_uf rfl (rf_f_ua (rf_f_refl _ _))
  · obtain ⟨h1, h2⟩ := ho
    show wb_Sp (sx_uf s.1 66 86 (s.1 66 86 + 1) 66 86) (sx_ua s.2.1 122 (s.1 66 86).toNat a0 122) (o ++ [a0])
    rw [px_us, sx_ua_same]
    have hl : s.1 66 86 = (o.length : Int) := by
      rcases h1 with ⟨_, h1⟩ | ⟨_, h1⟩
      · exact h1
      · have h1' : s.1 66 86 = 4001 := h1
        omega
    have ln : (o ++ [a0]).length = o.length + 1 := by rw [List.length_append]; rfl
    refine ⟨Or.inl ⟨by omega, by omega⟩, fun i hi h4 => ?_⟩
    dsimp only
    by_cases c : i = (s.1 66 86).toNat
    · rw [if_pos c, List.getElem?_append_right (by omega), show i - o.length = 0 by omega]
      rfl
    · rw [if_neg c, List.getElem?_append_left (by omega)]
      exact h2 i (by omega) h4
  · exact cx_I_uf rfl rfl hI (by omega) (by omega)
  · exact cx_F_uf rfl (cx_F_refl _ _)
  · exact rf_f_uf rfl (rf_f_refl _ _)
  · obtain ⟨h1, h2⟩ := ho
    show wb_Sp (sx_uf s.1 66 86 (s.1 66 86 + 1) 66 86) (s.2.1 122) (o ++ [a0])
    rw [px_us]
    have hl : s.1 66 86 = (o.length : Int) := by
      rcases h1 with ⟨_, h1⟩ | ⟨_, h1⟩
      · exact h1
      · have h1' : s.1 66 86 = 4001 := h1
        omega
    have ln : (o ++ [a0]).length = o.length + 1 := by rw [List.length_append]; rfl
    refine ⟨Or.inr ⟨by omega, by omega⟩, fun i hi h4 => ?_⟩
    rw [List.getElem?_append_left (by omega)]
    exact h2 i (by omega) h4
  · exact cx_I_uf rfl rfl hI (by omega) (by omega)
  · exact cx_F_uf rfl (cx_F_refl _ _)
  · exact rf_f_uf rfl (rf_f_refl _ _)
  · obtain ⟨h1, h2⟩ := ho
    show wb_Sp (sx_uf s.1 66 86 (s.1 66 86) 66 86) (s.2.1 122) (o ++ [a0])
    rw [px_us]
    have ln : (o ++ [a0]).length = o.length + 1 := by rw [List.length_append]; rfl
    have hl : 4000 < (o.length : Int) ∧ s.1 66 86 = 4001 := by
      rcases h1 with ⟨h0, h1⟩ | ⟨h0, h1⟩
      · have h1' : s.1 66 86 = (o.length : Int) := h1
        omega
      · exact ⟨h0, h1⟩
    refine ⟨Or.inr ⟨by omega, hl.2⟩, fun i hi h4 => ?_⟩
    rw [List.getElem?_append_left (by omega)]
    exact h2 i (by omega) h4
theorem w_b_putM {CALL : sx_Ca} {sL : Nat} {sx : Nat → Int32} {Q : Nat → sx_L → sx_S → Prop} {R : Int → sx_S → Prop} {s : sx_S} {a0 : Int} (p0 : 0 ≤ a0 ∧ a0 ≤ 241) (hQ : Q 2 [(0, .inr (.inl 66)), (1, .inl a0), (2, .inl 0)] s) : sx_wp true sL sx eX12_putName CALL [(2, [0, 1, 2])] Q R 400 0 (sx_argsF 0 [.inr (.inl 66), .inl a0]) [] s := by
  repeat' (first | (with_reducible intro _) | (refine And.intro ?_ ?_))
  all_goals (try dsimp only at *)
  all_goals (first | trivial | assumption | omega | skip)
theorem w_b_putM2 {CALL : sx_Ca} {sL : Nat} {sx : Nat → Int32} {Q : Nat → sx_L → sx_S → Prop} {R : Int → sx_S → Prop} {s : sx_S} {a0 x2 c : Int} {PW : sx_S → Prop} (hI : cx_I s) (p0 : 0 ≤ a0 ∧ a0 ≤ 241) (p2 : 0 ≤ x2 ∧ x2 ≤ 240) (pp : 0 ≤ s.2.1 70 a0.toNat ∧ s.2.1 70 a0.toNat ≤ 100000) (hB : x2 < s.2.1 71 a0.toNat → ∀ y, y = s.2.1 70 a0.toNat + x2 → ∀ K : Int → sx_S → Prop, K c s → CALL 151 [.inr (.inl 66), .inl y] s K) (hP : x2 < s.2.1 71 a0.toNat → ∀ K : Int → sx_S → Prop, (∀ z t, PW t → K z t) → CALL 203 [.inr (.inl 66), .inl c] s K) (hQ : x2 < s.2.1 71 a0.toNat → ∀ t, PW t → Q 2 [(0, .inr (.inl 66)), (1, .inl a0), (2, .inl (x2 + 1))] t) (hK : s.2.1 71 a0.toNat ≤ x2 → R 0 s) : sx_wp true sL sx eX12_putName CALL [(2, [0, 1, 2])] Q R 400 2 [(0, .inr (.inl 66)), (1, .inl a0), (2, .inl x2)] [] s := by
  have r71 := hI.arr 71 (by decide) rfl a0.toNat
  have r70 := hI.arr 70 (by decide) rfl a0.toNat
  have zz1 : sx_w true (s.2.1 70 a0.toNat + x2) = s.2.1 70 a0.toNat + x2 := px_wid (by omega) (by omega)
  have zz2 : sx_w true (x2 + 1) = x2 + 1 := px_wid (by omega) (by omega)
  rw [← zz2] at hQ
  repeat' (first | (with_reducible (rintro _ rfl)) | (with_reducible intro _) | (refine And.intro ?_ ?_) | (refine hB (by omega) _ zz1 _ ?_) | (refine hP (by omega) _ (fun zzz zzt zzp => ?_)) | (fail))
  all_goals (try dsimp only at *)
  all_goals (first | trivial | assumption | omega | (exfalso; omega) | (exact hK (by omega)) | (exact hQ (by omega) _ zzp) | skip)
theorem c_b_putM (nm : Int → List Int) {sL : Nat} {sx : Nat → Int32} (hsL : sL ≤ 3072) (d : Nat) (hd : 3 ≤ d) : ∀ (k u : Int) (s : sx_S) (K : Int → sx_S → Prop), cx_I s → we_Rn (wb_E nm) s → (0 ≤ k ∧ k < s.1 66 42) → u = s.2.1 95 k.toNat → (0 ≤ u ∧ u ≤ 241) → (∀ z t, we_PT (wb_E nm) s t ((wb_E nm).1.2.2 k) → K z t) → sx_C sL sx d 205 [.inr (.inl 66), .inl u] s K := by
  intro k u s K hI hR hk hu pu hK
  obtain ⟨e1, ⟨e2, e3⟩, e4, e5⟩ := hR trivial k hk.1 hk.2
  have r3 := hI.fld 66 3 (by decide) rfl
  rw [← hu] at e2 e3 e4 e5
  have en : nm k = (List.range (s.2.1 71 u.toNat).toNat).map (fun j : Nat => s.2.1 68 (s.2.1 70 u.toNat + (j : Int)).toNat) := by
    rw [e1]
    unfold wb_nm
    rw [← hu]
  obtain ⟨d, rfl⟩ : ∃ e, d = e + 2 := ⟨d - 2, by omega⟩
  refine sx_methL (wr := true) (n := 400) (n' := 400) (stop := [(2, [0, 1, 2])]) (fun n pc ls v => pc = 2 ∧ ∃ x2 : Nat, ls = [(0, .inr (.inl 66)), (1, .inl u), (2, .inl (x2 : Int))] ∧ (x2 : Int) ≤ s.2.1 71 u.toNat ∧ we_PT (wb_E nm) s v ((nm k).take x2) ∧ n = (s.2.1 71 u.toNat).toNat - x2) hsL (e := eX12_putName) rfl ?_ ?_
  · exact w_b_putM pu ⟨_, rfl, 0, rfl, by omega, we_PT_0 hI, rfl⟩
  · rintro n pc ls v ⟨rfl, x2, rfl, h2, hv, rfl⟩
    have f70 : v.2.1 70 = s.2.1 70 := (hv.2.1.same 70 rfl).2
    have f71 : v.2.1 71 = s.2.1 71 := (hv.2.1.same 71 rfl).2
    have f68 : v.2.1 68 = s.2.1 68 := (hv.2.1.same 68 rfl).2
    have f3 : v.1 66 3 = s.1 66 3 := hv.2.2.1 3 rfl
    have r68 := hI.arr 68 (by decide) rfl (s.2.1 70 u.toNat + (x2 : Int)).toNat
    refine w_b_putM2 (c := s.2.1 68 (s.2.1 70 u.toNat + (x2 : Int)).toNat) (PW := fun t => we_PT (wb_E nm) v t [s.2.1 68 (s.2.1 70 u.toNat + (x2 : Int)).toNat]) hv.1 pu (by omega) (by rw [f70]; omega) (fun q y hy K' hK' => ?_) (fun q K' hK' => c_b_put nm hsL (d + 1) (by omega) _ v K' hv.1 (by omega) hK') (fun q t ht => ?_) (fun q => hK 0 v ?_)
    · rw [f71] at q
      rw [f70] at hy
      refine c_rx_byteAt hsL (d + 1) (by omega) (s.2.1 68) (s.1 66 3) y v K' hv.1 (by omega) f68 f3 (fun z _ z1 _ => ?_)
      rw [z1 (by omega), hy]
      exact hK'
    · rw [f71] at q
      refine ⟨(s.2.1 71 u.toNat).toNat - (x2 + 1), by omega, rfl, x2 + 1, by rw [show ((x2 + 1 : Nat) : Int) = (x2 : Int) + 1 by omega], by omega, ?_, rfl⟩
      have et : (nm k).take (x2 + 1) = (nm k).take x2 ++ [s.2.1 68 (s.2.1 70 u.toNat + (x2 : Int)).toNat] := by
        rw [List.take_succ]
        congr 1
        rw [en, List.getElem?_map, List.getElem?_range (by omega)]
        rfl
      rw [et]
      exact we_PT_t hv ht
    · rw [f71] at q
      have et : (nm k).take x2 = nm k := List.take_of_length_le (by rw [en, List.length_map, List.length_range]; omega)
      rw [et] at hv
      exact hv
theorem wb_K (nm : Int → List Int) {sL : Nat} {sx : Nat → Int32} (hsL : sL ≤ 3072) : we_K (wb_E nm) sL sx := fun _ => by
  have hP := c_b_put nm (sL := sL) (sx := sx) hsL
  have hN := fun d hd => c_b_putN (E := wb_E nm) rfl (sL := sL) (sx := sx) hsL hP d hd
  refine ⟨hP, hN, c_b_putM nm hsL, fun d hd a0 a1 s K hI p0 p1 hK => ?_⟩
  obtain ⟨d, rfl⟩ : ∃ e, d = e + 2 := ⟨d - 2, by omega⟩
  have hI1 : cx_I (s.1, sx_ua s.2.1 107 a0.toNat a1, s.2.2) := cx_I_ua rfl rfl hI p1.1 p1.2
  refine sx_meth (wr := true) (n := 400) hsL (e := eX12_lambda) rfl (w_lambdaC (Q := fun _ _ _ => False) (P1 := fun t => we_PT (wb_E nm) (s.1, sx_ua s.2.1 107 a0.toNat a1, s.2.2) t [92]) (P2 := fun t t2 => we_PT (wb_E nm) t t2 (120 :: wb_dg a1)) (P3 := fun t t2 => we_PT (wb_E nm) t t2 [46]) hI p0 p1 (fun K' hK' => hP (d + 1) (by omega) 92 _ K' hI1 (by omega) hK') (fun t ht K' hK' => hN (d + 1) (by omega) 120 a1 t K' ht.1 (by omega) p1 hK') (fun t t2 _ ht K' hK' => hP (d + 1) (by omega) 46 t2 K' ht.1 (by omega) hK') (fun t t2 t3 h1 h2 h3 => ?_))
  have h := we_PT_t (we_PT_t h1 h2) h3
  refine hK 0 t3 h.1 (cx_F_step h.2.1 rfl (cx_F_ua rfl (cx_F_refl _ _))) (rf_f_step h.2.2.1 rfl (rf_f_ua (rf_f_refl _ _))) (fun j => ?_) (fun o ho => ?_)
  · rw [(h.2.1.same 107 rfl).2]
    show sx_ua s.2.1 107 a0.toNat a1 107 j = _
    rw [sx_ua_same]
  · have ho' : we_Sp (wb_E nm) ((s.1, sx_ua s.2.1 107 a0.toNat a1, s.2.2) : sx_S) o := by
      show wb_Sp (s.1 66 86) (sx_ua s.2.1 107 a0.toNat a1 122) o
      rw [sx_ua_ne (by decide)]
      exact ho
    have := h.2.2.2 o ho'
    exact this
end
section
/-! ===== the desk puts bytes, exactly ===== -/
def wb_Dp (s : sx_S) (o : List Int) : Prop := s.1 55 10 = (o.length : Int) ∧ ∀ i : Nat, i < o.length → i < 4000 → o[i]? = some (s.2.1 65 i)
/-- the bytes l were put -/
def wk_PT (s t : sx_S) (l : List Int) : Prop := cx_I t ∧ cx_F [(55, 55), (65, 65)] s t ∧ (∀ k, k ≠ 10 → t.1 55 k = s.1 55 k) ∧ t.1 55 10 = s.1 55 10 + (l.length : Int) ∧ ∀ o, wb_Dp s o → wb_Dp t (o ++ l)
theorem wk_PT_0 {s : sx_S} (hI : cx_I s) : wk_PT s s [] := ⟨hI, cx_F_refl _ _, fun _ _ => rfl, by show s.1 55 10 = s.1 55 10 + 0; omega, fun o h => by rw [List.append_nil]; exact h⟩
theorem wk_PT_t {s u t : sx_S} {l l' : List Int} (h1 : wk_PT s u l) (h2 : wk_PT u t l') : wk_PT s t (l ++ l') := by
  obtain ⟨a1, a2, a3, a4, a5⟩ := h1
  obtain ⟨b1, b2, b3, b4, b5⟩ := h2
  refine ⟨b1, cx_F_step b2 rfl a2, fun k hk => (b3 k hk).trans (a3 k hk), by rw [List.length_append]; omega, fun o ho => ?_⟩
  rw [← List.append_assoc]
  exact b5 _ (a5 o ho)
theorem w_k_put {CALL : sx_Ca} {sL : Nat} {sx : Nat → Int32} {Q : Nat → sx_L → sx_S → Prop} {R : Int → sx_S → Prop} {s : sx_S} {a0 : Int} (hI : cx_I s) (p0 : -2147483648 ≤ a0 ∧ a0 ≤ 2147483647) (h10 : s.1 55 10 ≤ 999999999) (hK1 : s.1 55 10 < 4000 → R 0 (sx_uf s.1 55 10 (s.1 55 10 + 1), sx_ua s.2.1 65 (s.1 55 10).toNat a0, s.2.2)) (hK2 : 4000 ≤ s.1 55 10 → R 0 (sx_uf s.1 55 10 (s.1 55 10 + 1), s.2)) : sx_wp true sL sx eX10_put CALL [] Q R 400 0 (sx_argsF 0 [.inr (.inl 55), .inl a0]) [] s := by
  have r := hI.fld 55 10 (by decide) rfl
  have zzy : sx_w true (s.1 55 10 + 1) = s.1 55 10 + 1 := px_wid (by omega) (by omega)
  rw [← zzy] at hK1 hK2
  have zzi : s.1 55 10 < 4000 → cx_I (s.1, sx_ua s.2.1 65 (s.1 55 10).toNat a0, s.2.2) := fun _ => cx_I_ua rfl rfl hI (by omega) (by omega)
  repeat' (first | (with_reducible (rintro _ rfl)) | (with_reducible intro _) | (refine And.intro ?_ ?_))
  all_goals (try dsimp only at *)
  all_goals (first | trivial | assumption | omega | (exfalso; omega) | (exact zzi (by omega)) | (exact hK1 (by omega)) | (exact hK2 (by omega)) | skip)
theorem c_k_put {sL : Nat} {sx : Nat → Int32} (hsL : sL ≤ 3072) (d : Nat) (hd : 2 ≤ d) : ∀ (a0 : Int) (s : sx_S) (K : Int → sx_S → Prop), cx_I s → (-2147483648 ≤ a0 ∧ a0 ≤ 2147483647) → s.1 55 10 ≤ 999999999 → (∀ z t, wk_PT s t [a0] → K z t) → sx_C sL sx d 135 [.inr (.inl 55), .inl a0] s K := by
  intro a0 s K hI p0 h10 hK
  have r := hI.fld 55 10 (by decide) rfl
  obtain ⟨d, rfl⟩ : ∃ e, d = e + 2 := ⟨d - 2, by omega⟩
  refine sx_meth (wr := true) (n := 400) hsL (e := eX10_put) rfl (w_k_put (Q := fun _ _ _ => False) hI p0 h10 (fun q => hK 0 _ ⟨?_, ?_, fun k hk => ?_, ?_, fun o ho => ?_⟩) (fun q => hK 0 _ ⟨?_, ?_, fun k hk => ?_, ?_, fun o ho => ?_⟩))
  · exact cx_I_uf rfl rfl (cx_I_ua rfl rfl hI (by omega) (by omega)) (by omega) (by omega)
  · exact cx_F_uf rfl (cx_F_ua rfl (cx_F_refl _ _))
  · show sx_uf s.1 55 10 (s.1 55 10 + 1) 55 k = _
    rw [sx_uf_if, if_neg (fun c => hk c.2)]
  · show sx_uf s.1 55 10 (s.1 55 10 + 1) 55 10 = s.1 55 10 + 1
    exact px_us _ _ _ _
  · obtain ⟨h1, h2⟩ := ho
    have ln : (o ++ [a0]).length = o.length + 1 := by rw [List.length_append]; rfl
    refine ⟨?_, fun i hi h4 => ?_⟩
    · show sx_uf s.1 55 10 (s.1 55 10 + 1) 55 10 = _
      rw [px_us, ln]
      omega
    · show (o ++ [a0])[i]? = some (sx_ua s.2.1 65 (s.1 55 10).toNat a0 65 i)
      rw [sx_ua_same]
      dsimp only
      by_cases c : i = (s.1 55 10).toNat
      · rw [if_pos c, List.getElem?_append_right (by omega), show i - o.length = 0 by omega]
        rfl
      · rw [if_neg c, List.getElem?_append_left (by omega)]
        exact h2 i (by omega) h4
  · exact cx_I_uf rfl rfl hI (by omega) (by omega)
  · exact cx_F_uf rfl (cx_F_refl _ _)
  · show sx_uf s.1 55 10 (s.1 55 10 + 1) 55 k = _
    rw [sx_uf_if, if_neg (fun c => hk c.2)]
  · show sx_uf s.1 55 10 (s.1 55 10 + 1) 55 10 = s.1 55 10 + 1
    exact px_us _ _ _ _
  · obtain ⟨h1, h2⟩ := ho
    have ln : (o ++ [a0]).length = o.length + 1 := by rw [List.length_append]; rfl
    refine ⟨?_, fun i hi h4 => ?_⟩
    · show sx_uf s.1 55 10 (s.1 55 10 + 1) 55 10 = _
      rw [px_us, ln]
      omega
    · show (o ++ [a0])[i]? = some (s.2.1 65 i)
      rw [List.getElem?_append_left (by omega)]
      exact h2 i (by omega) h4
theorem w_k_putN {CALL : sx_Ca} {sL : Nat} {sx : Nat → Int32} {Q : Nat → sx_L → sx_S → Prop} {R : Int → sx_S → Prop} {s : sx_S} {a0 : Int} (p0 : 0 ≤ a0 ∧ a0 ≤ 999999999) (hQ : Q 4 [(0, .inr (.inl 55)), (1, .inl a0), (2, .inl 1), (3, .inl 0)] s) : sx_wp false sL sx eX10_putNumber CALL [(4, [0, 1, 2, 3]), (31, [0, 1, 2, 3])] Q R 400 0 (sx_argsF 0 [.inr (.inl 55), .inl a0]) [] s := by
  repeat' (first | (with_reducible intro _) | (refine And.intro ?_ ?_))
  all_goals (try dsimp only at *)
  all_goals (first | trivial | assumption | omega | skip)
theorem w_k_putN4 {CALL : sx_Ca} {sL : Nat} {sx : Nat → Int32} {Q : Nat → sx_L → sx_S → Prop} {R : Int → sx_S → Prop} {s : sx_S} {a0 y x3 : Int} (p0 : 0 ≤ a0 ∧ a0 ≤ 999999999) (hy : 1 ≤ y ∧ y ≤ 100000000) (h3 : 0 ≤ x3 ∧ x3 ≤ 8) (hQ4 : x3 < 8 → y * 10 ≤ a0 → Q 4 [(0, .inr (.inl 55)), (1, .inl a0), (2, .inl (y * 10)), (3, .inl (x3 + 1))] s) (hQ31 : (8 ≤ x3 ∨ a0 < y * 10) → Q 31 [(0, .inr (.inl 55)), (1, .inl a0), (2, .inl y), (3, .inl 0)] s) : sx_wp false sL sx eX10_putNumber CALL [(4, [0, 1, 2, 3]), (31, [0, 1, 2, 3])] Q R 400 4 [(0, .inr (.inl 55)), (1, .inl a0), (2, .inl y), (3, .inl x3)] [] s := by
  repeat' (first | (with_reducible intro _) | (refine And.intro ?_ ?_))
  all_goals (try dsimp only at *)
  all_goals (first | trivial | assumption | omega | (simp only [sx_w_f] at *; omega) | (exact hQ4 (by omega) (by omega)) | (exact hQ31 (by omega)) | (exact hQ4 (by omega) (by simp only [sx_w_f] at *; omega)) | (exact hQ31 (by simp only [sx_w_f] at *; omega)) | skip)
theorem w_k_putN31 {CALL : sx_Ca} {sL : Nat} {sx : Nat → Int32} {Q : Nat → sx_L → sx_S → Prop} {R : Int → sx_S → Prop} {s : sx_S} {a0 y x3 : Int} {PW : sx_S → Prop} (p0 : 0 ≤ a0 ∧ a0 ≤ 999999999) (hy : 0 ≤ y ∧ y ≤ 100000000) (h3 : 0 ≤ x3 ∧ (0 < y → x3 ≤ 9) ∧ x3 ≤ 10) (hK : y = 0 → R 0 s) (hP : 0 < y → ∀ K : Int → sx_S → Prop, (∀ z t, PW t → K z t) → CALL 135 [.inr (.inl 55), .inl (wb_d a0 y)] s K) (hQ : 0 < y → ∀ t, PW t → Q 31 [(0, .inr (.inl 55)), (1, .inl a0), (2, .inl (y.tdiv 10)), (3, .inl (x3 + 1))] t) : sx_wp false sL sx eX10_putNumber CALL [(4, [0, 1, 2, 3]), (31, [0, 1, 2, 3])] Q R 400 31 [(0, .inr (.inl 55)), (1, .inl a0), (2, .inl y), (3, .inl x3)] [] s := by
  have hd := fun h => rf_dvin (v := a0) (t := y) (by omega) h
  have hr := rf_rm (a0.tdiv y)
  have h10 := rf_d10 hy.1
  have hr2 := fun h : 1 ≤ y => rf_dvin (t := 10) (rf_dvin (v := a0) (t := y) (by omega) h) (by decide)
  have hdd : wb_d a0 y = 48 + (a0.tdiv y - (a0.tdiv y).tdiv 10 * 10) := rfl
  rw [hdd] at hP
  repeat' (first | (with_reducible intro _) | (refine And.intro ?_ ?_) | (refine hP (by omega) _ (fun zzz zzt zzp => ?_)) | (fail))
  all_goals (try dsimp only at *)
  all_goals (first | trivial | assumption | omega | (simp only [sx_w_f] at *; omega) | (exact hK (by omega)) | (exact hQ (by omega) _ zzp) | (have zz1 := hd (by omega); have zz2 := hr2 (by omega); simp only [sx_w_f] at *; omega) | skip)
theorem wb_lt10 {a y : Int} (ha : 0 ≤ a) (hy : 1 ≤ y) : a.tdiv y ≤ 9 ↔ a < y * 10 := by
  rw [Int.tdiv_eq_ediv_of_nonneg ha]
  have h : a / y < 10 ↔ a < 10 * y := Int.ediv_lt_iff_lt_mul (by omega)
  constructor
  · intro q
    have := h.mp (by omega)
    omega
  · intro q
    have := h.mpr (by omega)
    omega
theorem wb_len_ds (v : Int) : ∀ j, (wb_ds v j).length = j + 1
  | 0 => rfl
  | j + 1 => by
    show (wb_ds v j).length + 1 = _
    rw [wb_len_ds v j]
theorem wb_kf_le (v : Int) : ∀ f j, wb_kf v f j ≤ f + j
  | 0, j => by
    show j ≤ 0 + j
    omega
  | f + 1, j => by
    show (if v.tdiv (wb_p j) ≤ 9 then j else wb_kf v f (j + 1)) ≤ _
    have := wb_kf_le v f (j + 1)
    by_cases c : v.tdiv (wb_p j) ≤ 9
    · rw [if_pos c]
      omega
    · rw [if_neg c]
      omega
theorem wb_dg_len (v : Int) : (wb_dg v).length ≤ 10 := by
  unfold wb_dg
  rw [wb_len_ds]
  have := wb_kf_le v 9 0
  omega
theorem c_k_putN {sL : Nat} {sx : Nat → Int32} (hsL : sL ≤ 3072) (d : Nat) (hd : 3 ≤ d) : ∀ (a0 : Int) (s : sx_S) (K : Int → sx_S → Prop), cx_I s → (0 ≤ a0 ∧ a0 ≤ 99999999) → s.1 55 10 ≤ 999999000 → (∀ z t, wk_PT s t (wb_dg a0) → K z t) → sx_C sL sx d 134 [.inr (.inl 55), .inl a0] s K := by
  intro a0 s K hI p0 h10 hK
  have dl := wb_dg_len a0
  obtain ⟨d, rfl⟩ : ∃ e, d = e + 2 := ⟨d - 2, by omega⟩
  refine sx_methL (wr := false) (n := 400) (n' := 400) (stop := [(4, [0, 1, 2, 3]), (31, [0, 1, 2, 3])]) (fun n pc ls u => (pc = 4 ∧ ∃ j : Nat, ls = [(0, .inr (.inl 55)), (1, .inl a0), (2, .inl (wb_p j)), (3, .inl (j : Int))] ∧ j ≤ 8 ∧ wb_kf a0 (9 - j) j = wb_kf a0 9 0 ∧ u = s ∧ n = 100 - j) ∨ (pc = 31 ∧ ∃ (y x3 : Int) (l l' : List Int), ls = [(0, .inr (.inl 55)), (1, .inl a0), (2, .inl y), (3, .inl x3)] ∧ wk_PT s u l ∧ l ++ l' = wb_dg a0 ∧ ((y = 0 ∧ l' = [] ∧ (0 ≤ x3 ∧ x3 ≤ 10) ∧ n = 0) ∨ ∃ j : Nat, j ≤ 8 ∧ y = wb_p j ∧ l' = wb_ds a0 j ∧ (0 ≤ x3 ∧ x3 + (j : Int) ≤ 8) ∧ n = j + 1))) hsL (e := eX10_putNumber) rfl ?_ ?_
  · exact w_k_putN (by omega) ⟨_, Or.inl ⟨rfl, 0, rfl, by omega, rfl, rfl, rfl⟩⟩
  · rintro n pc ls u (⟨rfl, j, rfl, j9, hk, rfl, rfl⟩ | ⟨rfl, y, x3, l, l', rfl, hu, hl, hc⟩)
    · have h1 := wb_p1 j
      have h9 : wb_p j ≤ 100000000 := by
        have : ∀ {j : Nat}, j ≤ 8 → wb_p j ≤ 100000000 := by decide
        exact this j9
      have lt := wb_lt10 (a := a0) (y := wb_p j) p0.1 h1
      refine w_k_putN4 (by omega) ⟨h1, h9⟩ (by omega) (fun q1 q2 => ?_) (fun q => ?_)
      · refine ⟨100 - (j + 1), by omega, Or.inl ⟨rfl, j + 1, ?_, by omega, ?_, rfl, rfl⟩⟩
        · show _ = [(0, Sum.inr (Sum.inl 55)), (1, Sum.inl a0), (2, Sum.inl (wb_p j * 10)), (3, Sum.inl (((j + 1 : Nat) : Int)))]
          rw [show ((j + 1 : Nat) : Int) = (j : Int) + 1 by omega]
        · rw [← hk, show 9 - j = (9 - (j + 1)) + 1 by omega]
          show _ = if a0.tdiv (wb_p j) ≤ 9 then j else wb_kf a0 (9 - (j + 1)) (j + 1)
          rw [if_neg (by omega)]
      · have q9 : a0.tdiv (wb_p j) ≤ 9 := by
          rw [lt]
          rcases q with q | q
          · have e8 : j = 8 := by omega
            have e9 : wb_p 8 = 100000000 := by decide
            rw [e8, e9]
            omega
          · exact q
        have ek : wb_kf a0 9 0 = j := by
          rw [← hk, show 9 - j = (9 - (j + 1)) + 1 by omega]
          show (if a0.tdiv (wb_p j) ≤ 9 then j else wb_kf a0 (9 - (j + 1)) (j + 1)) = j
          rw [if_pos q9]
        refine ⟨j + 1, by omega, Or.inr ⟨rfl, wb_p j, 0, [], wb_ds a0 j, rfl, wk_PT_0 hI, ?_, Or.inr ⟨j, j9, rfl, rfl, by omega, rfl⟩⟩⟩
        show wb_ds a0 j = wb_ds a0 (wb_kf a0 9 0)
        rw [ek]
    · rcases hc with ⟨y0, el, h3, rfl⟩ | ⟨j, j9, ey, el, h3, rfl⟩
      · refine w_k_putN31 (PW := fun _ => False) (by omega) (by omega) (by omega) (fun _ => hK 0 u ?_) (fun q => absurd q (by omega)) (fun q => absurd q (by omega))
        rw [el, List.append_nil] at hl
        rw [← hl]
        exact hu
      · have h1 := wb_p1 j
        have h9 : wb_p j ≤ 100000000 := by
          have : ∀ {j : Nat}, j ≤ 8 → wb_p j ≤ 100000000 := by decide
          exact this j9
        obtain ⟨l2, e1, e2⟩ := wb_ds_c (v := a0) j
        have hr := rf_rm (a0.tdiv y)
        have hll : l.length ≤ 10 := by
          have : (l ++ l').length ≤ 10 := by rw [hl]; exact dl
          rw [List.length_append] at this
          omega
        have hin := hu.2.2.2.1
        refine w_k_putN31 (PW := fun t => wk_PT u t [wb_d a0 y]) (by omega) (by omega) (by omega) (fun q => absurd q (by omega)) (fun _ K' hK' => c_k_put hsL (d + 1) (by omega) _ u K' hu.1 (by unfold wb_d; omega) (by omega) hK') (fun _ t ht => ?_)
        have hl2 : (l ++ [wb_d a0 y]) ++ l2 = wb_dg a0 := by
          rw [← hl, el, e1, ey, List.append_assoc]
          rfl
        have hpt : wk_PT s t (l ++ [wb_d a0 y]) := wk_PT_t hu ht
        rcases e2 with ⟨j0, rfl⟩ | ⟨i, ji, rfl⟩
        · refine ⟨0, by omega, Or.inr ⟨rfl, y.tdiv 10, x3 + 1, l ++ [wb_d a0 y], [], rfl, hpt, hl2, Or.inl ⟨?_, rfl, by omega, rfl⟩⟩⟩
          rw [ey, j0]
          decide
        · refine ⟨i + 1, by omega, Or.inr ⟨rfl, y.tdiv 10, x3 + 1, l ++ [wb_d a0 y], wb_ds a0 i, rfl, hpt, hl2, Or.inr ⟨i, by omega, ?_, rfl, by omega, rfl⟩⟩⟩
          rw [ey, ji]
          exact wb_p_d i
theorem w_k_putB {CALL : sx_Ca} {sL : Nat} {sx : Nat → Int32} {Q : Nat → sx_L → sx_S → Prop} {R : Int → sx_S → Prop} {s : sx_S} {a0 : Int} {P1 : sx_S → Prop} {P2 P3 P4 : sx_S → sx_S → Prop} (p0 : 0 ≤ a0 ∧ a0 ≤ 99999999) (h1 : ∀ K : Int → sx_S → Prop, (∀ z t, P1 t → K z t) → CALL 135 [.inr (.inl 55), .inl 92] s K) (h2 : ∀ t, P1 t → ∀ K : Int → sx_S → Prop, (∀ z t2, P2 t t2 → K z t2) → CALL 135 [.inr (.inl 55), .inl 120] t K) (h3 : ∀ t t2, P1 t → P2 t t2 → ∀ K : Int → sx_S → Prop, (∀ z t3, P3 t2 t3 → K z t3) → CALL 134 [.inr (.inl 55), .inl a0] t2 K) (h4 : ∀ t t2 t3, P1 t → P2 t t2 → P3 t2 t3 → ∀ K : Int → sx_S → Prop, (∀ z t4, P4 t3 t4 → K z t4) → CALL 135 [.inr (.inl 55), .inl 46] t3 K) (hK : ∀ t t2 t3 t4, P1 t → P2 t t2 → P3 t2 t3 → P4 t3 t4 → R 0 t4) : sx_wp true sL sx eX10_putBinder CALL [] Q R 400 0 (sx_argsF 0 [.inr (.inl 55), .inl a0]) [] s := by
  repeat' (first | (with_reducible intro _) | (refine And.intro ?_ ?_) | (refine h1 _ (fun zz1 zt1 zp1 => ?_)) | (refine h2 zt1 zp1 _ (fun zz2 zt2 zp2 => ?_)) | (refine h3 zt1 zt2 zp1 zp2 _ (fun zz3 zt3 zp3 => ?_)) | (refine h4 zt1 zt2 zt3 zp1 zp2 zp3 _ (fun zz4 zt4 zp4 => ?_)) | (fail))
  all_goals (try dsimp only at *)
  all_goals (first | trivial | assumption | omega | (exact hK _ _ _ _ zp1 zp2 zp3 zp4) | skip)
theorem c_k_putB {sL : Nat} {sx : Nat → Int32} (hsL : sL ≤ 3072) (d : Nat) (hd : 4 ≤ d) : ∀ (a0 : Int) (s : sx_S) (K : Int → sx_S → Prop), cx_I s → (0 ≤ a0 ∧ a0 ≤ 99999999) → s.1 55 10 ≤ 999998000 → (∀ z t, wk_PT s t (92 :: 120 :: (wb_dg a0 ++ [46])) → K z t) → sx_C sL sx d 133 [.inr (.inl 55), .inl a0] s K := by
  intro a0 s K hI p0 h10 hK
  have dl := wb_dg_len a0
  obtain ⟨d, rfl⟩ : ∃ e, d = e + 2 := ⟨d - 2, by omega⟩
  refine sx_meth (wr := true) (n := 400) hsL (e := eX10_putBinder) rfl (w_k_putB (Q := fun _ _ _ => False) (P1 := fun t => wk_PT s t [92]) (P2 := fun t t2 => wk_PT t t2 [120]) (P3 := fun t t2 => wk_PT t t2 (wb_dg a0)) (P4 := fun t t2 => wk_PT t t2 [46]) p0 (fun K' hK' => c_k_put hsL (d + 1) (by omega) 92 s K' hI (by omega) (by omega) hK') (fun t h1 K' hK' => ?_) (fun t t2 h1 h2 K' hK' => ?_) (fun t t2 t3 h1 h2 h3 K' hK' => ?_) (fun t t2 t3 t4 h1 h2 h3 h4 => hK 0 t4 (wk_PT_t (wk_PT_t (wk_PT_t h1 h2) h3) h4)))
  · have e1 : t.1 55 10 = s.1 55 10 + 1 := h1.2.2.2.1
    exact c_k_put hsL (d + 1) (by omega) 120 t K' h1.1 (by omega) (by omega) hK'
  · have e1 : t.1 55 10 = s.1 55 10 + 1 := h1.2.2.2.1
    have e2 : t2.1 55 10 = t.1 55 10 + 1 := h2.2.2.2.1
    exact c_k_putN hsL (d + 1) (by omega) a0 t2 K' h2.1 p0 (by omega) hK'
  · have e1 : t.1 55 10 = s.1 55 10 + 1 := h1.2.2.2.1
    have e2 : t2.1 55 10 = t.1 55 10 + 1 := h2.2.2.2.1
    have e3 := h3.2.2.2.1
    exact c_k_put hsL (d + 1) (by omega) 46 t3 K' h3.1 (by omega) (by omega) hK'
end
section
/-! ===== the desk puts a variable in its long form ===== -/
def wk_bd (L : Int) : Nat → List Int
  | 0 => []
  | k + 1 => (92 :: 120 :: (wb_dg L ++ [46])) ++ wk_bd (L + 1) k
def wk_row : rf_T → Int → Int → List Int
  | .leaf, _, _ => []
  | .inner _ _ _ A B, i, M => (32 :: (if (rf_args A).length = 0 then 120 :: wb_dg i else 40 :: (wk_bd M (rf_args A).length ++ ((120 :: wb_dg i) ++ (wk_row A M (M + ((rf_args A).length : Int)) ++ [41]))))) ++ wk_row B (i + 1) M
def wk_cv (A : rf_T) (n L : Int) : List Int := 32 :: (if (rf_args A).length = 0 then 120 :: wb_dg n else 40 :: (wk_bd L (rf_args A).length ++ ((120 :: wb_dg n) ++ (wk_row A L (L + ((rf_args A).length : Int)) ++ [41]))))
theorem wk_row_in (z : Nat) (u v : Unit) (A B : rf_T) (i M : Int) : wk_row (.inner z u v A B) i M = wk_cv A i M ++ wk_row B (i + 1) M := rfl
theorem wk_bd_len (L : Int) : ∀ k, (wk_bd L k).length ≤ 14 * k := by
  intro k
  induction k generalizing L with
  | zero => exact Nat.le_refl _
  | succ k ih =>
    have h1 := ih (L + 1)
    have h2 := wb_dg_len L
    show ((92 :: 120 :: (wb_dg L ++ [46])) ++ wk_bd (L + 1) k).length ≤ _
    rw [List.length_append, List.length_cons, List.length_cons, List.length_append]
    show (wb_dg L).length + 1 + 1 + 1 + (wk_bd (L + 1) k).length ≤ _
    omega
theorem wk_len : ∀ (A : rf_T) (n L : Int), (wk_cv A n L).length + 14 ≤ 28 * rf_at A ∧ (wk_row A n L).length + 14 * (rf_args A).length + 28 ≤ 28 * rf_at A
  | .leaf, n, L => by
    have h2 := wb_dg_len n
    refine ⟨?_, by show 0 + 14 * 0 + 28 ≤ 28 * 1; omega⟩
    show (32 :: 120 :: wb_dg n).length + 14 ≤ 28 * 1
    rw [List.length_cons, List.length_cons]
    omega
  | .inner z u v A B, n, L => by
    have hA := wk_len A
    have hB := wk_len B
    have row : ∀ i M, (wk_row (.inner z u v A B) i M).length + 14 * (rf_args (.inner z u v A B)).length + 28 ≤ 28 * rf_at (.inner z u v A B) := fun i M => by
      rw [wk_row_in, List.length_append]
      have h1 := (hA i M).1
      have h2 := (hB (i + 1) M).2
      show _ + 14 * ((rf_args B).length + 1) + 28 ≤ 28 * (rf_at A + rf_at B)
      omega
    refine ⟨?_, row n L⟩
    have h1 := row L (L + ((rf_args (.inner z u v A B)).length : Int))
    have h2 := wb_dg_len n
    have h3 := wk_bd_len L (rf_args (.inner z u v A B)).length
    unfold wk_cv
    rw [if_neg (by show ¬ ((rf_args B).length + 1 = 0); omega)]
    simp only [List.length_cons, List.length_append, List.length_nil]
    omega
/-- the shape of a type of the desk -/
def wk_ty (s : sx_S) : rf_T → Int → Prop
  | .leaf, z => (z < 2 ∨ s.1 8 2 ≤ z) ∧ (-2147483648 ≤ z ∧ z ≤ 2147483647)
  | .inner _ _ _ A B, z => (2 ≤ z ∧ z < s.1 8 2) ∧ wk_ty s A (s.2.1 9 z.toNat) ∧ wk_ty s B (s.2.1 10 z.toNat)
theorem wk_ty_c {s t : sx_S} (h8 : t.1 8 2 = s.1 8 2) (h9 : t.2.1 9 = s.2.1 9) (h10 : t.2.1 10 = s.2.1 10) : ∀ {A : rf_T} {z : Int}, wk_ty s A z → wk_ty t A z
  | .leaf, _, h => by
    unfold wk_ty at h ⊢
    rw [h8]
    exact h
  | .inner _ _ _ A B, z, ⟨h1, h2, h3⟩ => ⟨by rw [h8]; exact h1, by rw [h9]; exact wk_ty_c h8 h9 h10 h2, by rw [h10]; exact wk_ty_c h8 h9 h10 h3⟩
theorem wk_ty_dx {s : sx_S} : ∀ {T : qx_T} {z : Int}, dx_is s T z → wk_ty s (qx_sh T) z
  | .leaf, z, h => by
    have h' : z = 0 := h
    exact ⟨Or.inl (by omega), by omega, by omega⟩
  | .inner j k _ x y, z, h => by
    obtain ⟨_, h⟩ := h
    cases k with
    | true =>
      rcases h with ⟨_, _, _, h⟩ | ⟨h, _⟩
      · exact ⟨Or.inl (by omega), by omega, by omega⟩
      · cases h
    | false =>
      rcases h with ⟨h, _⟩ | ⟨_, h1, h2, h3⟩
      · cases h
      · exact ⟨h1, wk_ty_dx h2, wk_ty_dx h3⟩
theorem wk_ty_r {s : sx_S} (hI : cx_I s) {A : rf_T} {z : Int} (h : wk_ty s A z) : -2147483648 ≤ z ∧ z ≤ 2147483647 := by
  cases A with
  | leaf => exact h.2
  | inner n u v x y =>
    have h1 := h.1
    have := hI.fld 8 2 (by decide) rfl
    omega
theorem w_k_vy {CALL : sx_Ca} {sL : Nat} {sx : Nat → Int32} {Q : Nat → sx_L → sx_S → Prop} {R : Int → sx_S → Prop} {s : sx_S} {a0 a1 a2 a3 : Int} {P1 : sx_S → Prop} {P2 : sx_S → sx_S → Prop} (p0 : -2147483648 ≤ a0 ∧ a0 ≤ 2147483647) (p1 : -2147483648 ≤ a1 ∧ a1 ≤ 2147483647) (p2 : -2147483648 ≤ a2 ∧ a2 ≤ 2147483647) (p3 : 0 ≤ a3 ∧ a3 ≤ 4) (hA : ∀ K : Int → sx_S → Prop, K 1 s → CALL 116 [.inr (.inl 8), .inl a1] s K) (h1 : ∀ K : Int → sx_S → Prop, (∀ z t, P1 t → K z t) → CALL 135 [.inr (.inl 55), .inl 32] s K) (h2 : ∀ t, P1 t → ∀ K : Int → sx_S → Prop, (∀ z t2, P2 t t2 → K z t2) → CALL 135 [.inr (.inl 55), .inl 40] t K) (hQ : ∀ t t2, P1 t → P2 t t2 → Q 50 [(0, .inr (.inl 55)), (1, .inl a0), (2, .inl a1), (3, .inl a2), (4, .inl a3), (5, .inl 1), (6, .inl a2), (7, .inl a1), (8, .inl 0)] t2) : sx_wp true sL sx eX10_putVariable CALL [(50, [0, 1, 2, 3, 4, 5, 6, 7, 8]), (116, [0, 4, 5, 6, 7, 8])] Q R 400 0 (sx_argsF 0 [.inr (.inl 55), .inl a0, .inl a1, .inl a2, .inl a3]) [] s := by
  repeat' (first | (with_reducible intro _) | (refine And.intro ?_ ?_) | (refine hA _ ?_) | (refine h1 _ (fun zz1 zt1 zp1 => ?_)) | (refine h2 zt1 zp1 _ (fun zz2 zt2 zp2 => ?_)) | (fail))
  all_goals (try dsimp only at *)
  all_goals (first | trivial | assumption | omega | (exfalso; omega) | (exact hQ _ _ zp1 zp2) | skip)
theorem w_k_vn {CALL : sx_Ca} {sL : Nat} {sx : Nat → Int32} {Q : Nat → sx_L → sx_S → Prop} {R : Int → sx_S → Prop} {s : sx_S} {a0 a1 a2 a3 : Int} {P1 : sx_S → Prop} (p0 : -2147483648 ≤ a0 ∧ a0 ≤ 2147483647) (p1 : -2147483648 ≤ a1 ∧ a1 ≤ 2147483647) (p2 : -2147483648 ≤ a2 ∧ a2 ≤ 2147483647) (p3 : 0 ≤ a3 ∧ a3 ≤ 4) (hA : ∀ K : Int → sx_S → Prop, K 0 s → CALL 116 [.inr (.inl 8), .inl a1] s K) (h1 : ∀ K : Int → sx_S → Prop, (∀ z t, P1 t → K z t) → CALL 135 [.inr (.inl 55), .inl 32] s K) (hQ : ∀ t, P1 t → Q 50 [(0, .inr (.inl 55)), (1, .inl a0), (2, .inl a1), (3, .inl a2), (4, .inl a3), (5, .inl 0), (6, .inl a2), (7, .inl a1), (8, .inl 0)] t) : sx_wp true sL sx eX10_putVariable CALL [(50, [0, 1, 2, 3, 4, 5, 6, 7, 8]), (116, [0, 4, 5, 6, 7, 8])] Q R 400 0 (sx_argsF 0 [.inr (.inl 55), .inl a0, .inl a1, .inl a2, .inl a3]) [] s := by
  repeat' (first | (with_reducible intro _) | (refine And.intro ?_ ?_) | (refine hA _ ?_) | (refine h1 _ (fun zz1 zt1 zp1 => ?_)) | (fail))
  all_goals (try dsimp only at *)
  all_goals (first | trivial | assumption | omega | (exfalso; omega) | (exact hQ _ zp1) | skip)
theorem w_k_v50y {CALL : sx_Ca} {sL : Nat} {sx : Nat → Int32} {Q : Nat → sx_L → sx_S → Prop} {R : Int → sx_S → Prop} {s : sx_S} {a0 a1 a2 a3 x6 x7 x8 r : Int} {P1 : sx_S → Prop} (p6 : 0 ≤ x6 ∧ x6 ≤ 99999999) (p7 : -2147483648 ≤ x7 ∧ x7 ≤ 2147483647) (p8 : 0 ≤ x8 ∧ x8 < 4) (hA : ∀ K : Int → sx_S → Prop, K 1 s → CALL 116 [.inr (.inl 8), .inl x7] s K) (h1 : ∀ K : Int → sx_S → Prop, (∀ z t, P1 t → K z t) → CALL 133 [.inr (.inl 55), .inl x6] s K) (hT : ∀ t, P1 t → ∀ K : Int → sx_S → Prop, K r t → CALL 118 [.inr (.inl 8), .inl x7] t K) (rr : -2147483648 ≤ r ∧ r ≤ 2147483647) (hQ : ∀ t, P1 t → Q 50 [(0, .inr (.inl 55)), (1, .inl a0), (2, .inl a1), (3, .inl a2), (4, .inl a3), (5, .inl 1), (6, .inl (x6 + 1)), (7, .inl r), (8, .inl (x8 + 1))] t) : sx_wp true sL sx eX10_putVariable CALL [(50, [0, 1, 2, 3, 4, 5, 6, 7, 8]), (116, [0, 4, 5, 6, 7, 8])] Q R 400 50 [(0, .inr (.inl 55)), (1, .inl a0), (2, .inl a1), (3, .inl a2), (4, .inl a3), (5, .inl 1), (6, .inl x6), (7, .inl x7), (8, .inl x8)] [] s := by
  have zz6 : sx_w true (x6 + 1) = x6 + 1 := px_wid (by omega) (by omega)
  have zz8 : sx_w true (x8 + 1) = x8 + 1 := px_wid (by omega) (by omega)
  rw [← zz6, ← zz8] at hQ
  repeat' (first | (with_reducible intro _) | (refine And.intro ?_ ?_) | (refine hA _ ?_) | (refine h1 _ (fun zz1 zt1 zp1 => ?_)) | (refine hT zt1 zp1 _ ?_) | (fail))
  all_goals (try dsimp only at *)
  all_goals (first | trivial | assumption | omega | (exfalso; omega) | (exact hQ _ zp1) | skip)
theorem w_k_v50n {CALL : sx_Ca} {sL : Nat} {sx : Nat → Int32} {Q : Nat → sx_L → sx_S → Prop} {R : Int → sx_S → Prop} {s : sx_S} {a0 a1 a2 a3 x5 x6 x7 x8 : Int} {P1 : sx_S → Prop} {P2 : sx_S → sx_S → Prop} (p0 : 0 ≤ a0 ∧ a0 ≤ 99999999) (p1 : -2147483648 ≤ a1 ∧ a1 ≤ 2147483647) (p2 : -2147483648 ≤ a2 ∧ a2 ≤ 2147483647) (p5 : x5 = 0 ∨ x5 = 1) (p7 : -2147483648 ≤ x7 ∧ x7 ≤ 2147483647) (p8 : 0 ≤ x8 ∧ x8 ≤ 4) (hA : x5 = 1 → ∀ K : Int → sx_S → Prop, K 0 s → CALL 116 [.inr (.inl 8), .inl x7] s K) (h1 : ∀ K : Int → sx_S → Prop, (∀ z t, P1 t → K z t) → CALL 135 [.inr (.inl 55), .inl 120] s K) (h2 : ∀ t, P1 t → ∀ K : Int → sx_S → Prop, (∀ z t2, P2 t t2 → K z t2) → CALL 134 [.inr (.inl 55), .inl a0] t K) (hQ : ∀ t t2, P1 t → P2 t t2 → Q 116 [(0, .inr (.inl 55)), (4, .inl a3), (5, .inl x5), (6, .inl x6), (7, .inl a1), (8, .inl a2)] t2) : sx_wp true sL sx eX10_putVariable CALL [(50, [0, 1, 2, 3, 4, 5, 6, 7, 8]), (116, [0, 4, 5, 6, 7, 8])] Q R 400 50 [(0, .inr (.inl 55)), (1, .inl a0), (2, .inl a1), (3, .inl a2), (4, .inl a3), (5, .inl x5), (6, .inl x6), (7, .inl x7), (8, .inl x8)] [] s := by
  rcases p5 with p5 | p5 <;> subst p5
  all_goals (repeat' (first | (with_reducible intro _) | (refine And.intro ?_ ?_) | (refine hA rfl _ ?_) | (refine h1 _ (fun zz1 zt1 zp1 => ?_)) | (refine h2 zt1 zp1 _ (fun zz2 zt2 zp2 => ?_)) | (fail)))
  all_goals (try dsimp only at *)
  all_goals (first | trivial | assumption | omega | (exfalso; omega) | (exact hQ _ _ zp1 zp2) | skip)
theorem w_k_v116y {CALL : sx_Ca} {sL : Nat} {sx : Nat → Int32} {Q : Nat → sx_L → sx_S → Prop} {R : Int → sx_S → Prop} {s : sx_S} {a3 x5 x6 x7 x8 f r : Int} {P1 : sx_S → Prop} (p3 : 0 ≤ a3 ∧ a3 ≤ 4) (p6 : 0 ≤ x6 ∧ x6 ≤ 99999999) (p7 : -2147483648 ≤ x7 ∧ x7 ≤ 2147483647) (p8 : 0 ≤ x8 ∧ x8 < x6) (hF : ∀ K : Int → sx_S → Prop, K f s → CALL 117 [.inr (.inl 8), .inl x7] s K) (rf' : -2147483648 ≤ f ∧ f ≤ 2147483647) (hV : ∀ y, y = a3 + 1 → ∀ K : Int → sx_S → Prop, (∀ z t, P1 t → K z t) → CALL 132 [.inr (.inl 55), .inl x8, .inl f, .inl x6, .inl y] s K) (hT : ∀ t, P1 t → ∀ K : Int → sx_S → Prop, K r t → CALL 118 [.inr (.inl 8), .inl x7] t K) (rr : -2147483648 ≤ r ∧ r ≤ 2147483647) (hQ : ∀ t, P1 t → Q 116 [(0, .inr (.inl 55)), (4, .inl a3), (5, .inl x5), (6, .inl x6), (7, .inl r), (8, .inl (x8 + 1))] t) : sx_wp true sL sx eX10_putVariable CALL [(50, [0, 1, 2, 3, 4, 5, 6, 7, 8]), (116, [0, 4, 5, 6, 7, 8])] Q R 400 116 [(0, .inr (.inl 55)), (4, .inl a3), (5, .inl x5), (6, .inl x6), (7, .inl x7), (8, .inl x8)] [] s := by
  have zz3 : sx_w true (a3 + 1) = a3 + 1 := px_wid (by omega) (by omega)
  have zz8 : sx_w true (x8 + 1) = x8 + 1 := px_wid (by omega) (by omega)
  rw [← zz8] at hQ
  repeat' (first | (with_reducible intro _) | (refine And.intro ?_ ?_) | (refine hF _ ?_) | (refine hV _ zz3 _ (fun zz1 zt1 zp1 => ?_)) | (refine hT zt1 zp1 _ ?_) | (fail))
  all_goals (try dsimp only at *)
  all_goals (first | trivial | assumption | omega | (exfalso; omega) | (exact hQ _ zp1) | skip)
theorem w_k_v116n {CALL : sx_Ca} {sL : Nat} {sx : Nat → Int32} {Q : Nat → sx_L → sx_S → Prop} {R : Int → sx_S → Prop} {s : sx_S} {a3 x5 x6 x7 x8 : Int} {P1 : sx_S → Prop} (p5 : x5 = 0 ∨ x5 = 1) (p6 : 0 ≤ x6 ∧ x6 ≤ 99999999) (p8 : x6 ≤ x8 ∧ x8 ≤ 99999999) (h1 : x5 = 1 → ∀ K : Int → sx_S → Prop, (∀ z t, P1 t → K z t) → CALL 135 [.inr (.inl 55), .inl 41] s K) (hK0 : x5 = 0 → R 0 s) (hK1 : x5 = 1 → ∀ t, P1 t → R 0 t) : sx_wp true sL sx eX10_putVariable CALL [(50, [0, 1, 2, 3, 4, 5, 6, 7, 8]), (116, [0, 4, 5, 6, 7, 8])] Q R 400 116 [(0, .inr (.inl 55)), (4, .inl a3), (5, .inl x5), (6, .inl x6), (7, .inl x7), (8, .inl x8)] [] s := by
  rcases p5 with p5 | p5 <;> subst p5
  all_goals (repeat' (first | (with_reducible intro _) | (refine And.intro ?_ ?_) | (refine h1 rfl _ (fun zz1 zt1 zp1 => ?_)) | (fail)))
  all_goals (try dsimp only at *)
  all_goals (first | trivial | assumption | omega | (exfalso; omega) | (exact hK0 rfl) | (exact hK1 rfl _ zp1) | skip)
end
