/-! ===== the reference's paper, byte by byte ===== -/
def wb_Sp (a : Int) (p : Nat → Int) (o : List Int) : Prop := (((o.length : Int) ≤ 4000 ∧ a = (o.length : Int)) ∨ (4000 < (o.length : Int) ∧ a = 4001)) ∧ ∀ i : Nat, i < o.length → i < 4000 → o[i]? = some (p i)
/-- the name of the constant k, as memory has it -/
def wb_nm (s : sx_S) (k : Int) : List Int := (List.range (s.2.1 71 (s.2.1 95 k.toNat).toNat).toNat).map (fun j : Nat => s.2.1 68 (s.2.1 70 (s.2.1 95 k.toNat).toNat + (j : Int)).toNat)
def wb_Rn (nm : Int → List Int) (s : sx_S) : Prop := True → ∀ k : Int, 0 ≤ k → k < s.1 66 42 → nm k = wb_nm s k ∧ (0 ≤ s.2.1 71 (s.2.1 95 k.toNat).toNat ∧ s.2.1 71 (s.2.1 95 k.toNat).toNat ≤ 240) ∧ 0 ≤ s.2.1 70 (s.2.1 95 k.toNat).toNat ∧ s.2.1 70 (s.2.1 95 k.toNat).toNat + s.2.1 71 (s.2.1 95 k.toNat).toNat ≤ s.1 66 3
/-- papers of bytes -/
def wb_E (nm : Int → List Int) : we_E (List Int) := ((fun c o => o ++ [c], wb_dg, nm), (wb_Sp, fun o => 4000 < o.length, wb_Rn nm), fun _ => [], fun _ => .leaf, fun _ => [], fun _ => 0)
theorem wb_L (nm : Int → List Int) : we_L (wb_E nm) := fun _ => by
  refine ⟨fun c o h => ?_, fun a p c o h g => ?_, fun a p o g h => ?_, fun s t ha e3 e42 h => ?_⟩
  · have h' : 4000 < o.length := h
    show 4000 < (o ++ [c]).length
    rw [List.length_append]
    omega
  · have h' : 4000 < o.length := h
    obtain ⟨g1, g2⟩ := g
    refine ⟨Or.inr ⟨?_, ?_⟩, fun i hi h4 => ?_⟩
    · show (4000 : Int) < ((o ++ [c]).length : Int)
      rw [List.length_append]
      omega
    · rcases g1 with ⟨g1, _⟩ | ⟨_, g1⟩
      · omega
      · exact g1
    · show (o ++ [c])[i]? = _
      rw [List.getElem?_append_left (by omega)]
      exact g2 i (by omega) h4
  · show 4000 < o.length
    rcases g.1 with ⟨g1, g2⟩ | ⟨g1, _⟩ <;> omega
  · intro _ k k0 k1
    have h' := h trivial k k0 (by omega)
    unfold wb_nm at h' ⊢
    rw [ha 68 (by omega) (by omega), ha 70 (by omega) (by omega), ha 71 (by omega) (by omega), ha 95 (by omega) (by omega), e3]
    exact h'
theorem wb_F (nm : Int → List Int) : ∀ p : Nat → Int, ∃ o, we_sa (wb_E nm) o ∧ (wb_E nm).2.1.1 4001 p o := fun p => by
  refine ⟨(List.range 4001).map p, ?_, Or.inr ⟨?_, rfl⟩, fun i hi h4 => ?_⟩
  · show 4000 < ((List.range 4001).map p).length
    rw [List.length_map, List.length_range]
    omega
  · show (4000 : Int) < (((List.range 4001).map p).length : Int)
    rw [List.length_map, List.length_range]
    decide
  · show ((List.range 4001).map p)[i]? = _
    rw [List.getElem?_map, List.getElem?_range (by omega)]
    rfl
theorem w_b_put {CALL : sx_Ca} {sL : Nat} {sx : Nat → Int32} {Q : Nat → sx_L → sx_S → Prop} {R : Int → sx_S → Prop} {s : sx_S} {a0 : Int} (hI : cx_I s) (p0 : -2147483648 ≤ a0 ∧ a0 ≤ 2147483647) (hK1 : s.1 66 86 < 4000 → R 0 (sx_uf s.1 66 86 (s.1 66 86 + 1), sx_ua s.2.1 122 (s.1 66 86).toNat a0, s.2.2)) (hK2 : s.1 66 86 = 4000 → R 0 (sx_uf s.1 66 86 (s.1 66 86 + 1), s.2)) (hK3 : 4000 < s.1 66 86 → R 0 (sx_uf s.1 66 86 (s.1 66 86), s.2)) : sx_wp true sL sx eX12_put CALL [] Q R 400 0 (sx_argsF 0 [.inr (.inl 66), .inl a0]) [] s := by
  have r := hI.fld 66 86 (by decide) rfl
  have zzy : sx_w true (s.1 66 86 + 1) = s.1 66 86 + 1 := px_wid (by omega) (by omega)
  rw [← zzy] at hK1 hK2
  have zzi : cx_I (s.1, sx_ua s.2.1 122 (s.1 66 86).toNat a0, s.2.2) := cx_I_ua rfl rfl hI (by omega) (by omega)
  repeat' (first | (with_reducible (rintro _ rfl)) | (with_reducible intro _) | (refine And.intro ?_ ?_))
  all_goals (try dsimp only at *)
  all_goals (first | trivial | assumption | omega | (exfalso; omega) | (exact hK1 (by omega)) | (exact hK2 (by omega)) | (exact hK3 (by omega)) | skip)
theorem c_b_put (nm : Int → List Int) {sL : Nat} {sx : Nat → Int32} (hsL : sL ≤ 3072) (d : Nat) (hd : 2 ≤ d) : ∀ (a0 : Int) (s : sx_S) (K : Int → sx_S → Prop), cx_I s → (-2147483648 ≤ a0 ∧ a0 ≤ 2147483647) → (∀ z t, we_PT (wb_E nm) s t [a0] → K z t) → sx_C sL sx d 203 [.inr (.inl 66), .inl a0] s K := by
  intro a0 s K hI p0 hK
  have r := hI.fld 66 86 (by decide) rfl
  obtain ⟨d, rfl⟩ : ∃ e, d = e + 2 := ⟨d - 2, by omega⟩
  refine sx_meth (wr := true) (n := 400) hsL (e := eX12_put) rfl (w_b_put (Q := fun _ _ _ => False) hI p0 (fun q => hK 0 _ ⟨?_, ?_, ?_, fun o ho => ?_⟩) (fun q => hK 0 _ ⟨?_, ?_, ?_, fun o ho => ?_⟩) (fun q => hK 0 _ ⟨?_, ?_, ?_, fun o ho => ?_⟩))
  · exact cx_I_uf rfl rfl (cx_I_ua rfl rfl hI (by omega) (by omega)) (by omega) (by omega)
  · exact cx_F_uf rfl (cx_F_ua rfl (cx_F_refl _ _))
  · exact rf_f_uf rfl (rf_f_ua (rf_f_refl _ _))
  · obtain ⟨h1, h2⟩ := ho
    show wb_Sp (sx_uf s.1 66 86 (s.1 66 86 + 1) 66 86) (sx_ua s.2.1 122 (s.1 66 86).toNat a0 122) (o ++ [a0])
    rw [px_us, sx_ua_same]
    have hl : s.1 66 86 = (o.length : Int) := by
      rcases h1 with ⟨_, h1⟩ | ⟨_, h1⟩
      · exact h1
      · have h1' : s.1 66 86 = 4001 := h1
        omega
    have ln : (o ++ [a0]).length = o.length + 1 := by rw [List.length_append]; rfl
    refine ⟨Or.inl ⟨by omega, by omega⟩, fun i hi h4 => ?_⟩
    dsimp only
    by_cases c : i = (s.1 66 86).toNat
    · rw [if_pos c, List.getElem?_append_right (by omega), show i - o.length = 0 by omega]
      rfl
    · rw [if_neg c, List.getElem?_append_left (by omega)]
      exact h2 i (by omega) h4
  · exact cx_I_uf rfl rfl hI (by omega) (by omega)
  · exact cx_F_uf rfl (cx_F_refl _ _)
  · exact rf_f_uf rfl (rf_f_refl _ _)
  · obtain ⟨h1, h2⟩ := ho
    show wb_Sp (sx_uf s.1 66 86 (s.1 66 86 + 1) 66 86) (s.2.1 122) (o ++ [a0])
    rw [px_us]
    have hl : s.1 66 86 = (o.length : Int) := by
      rcases h1 with ⟨_, h1⟩ | ⟨_, h1⟩
      · exact h1
      · have h1' : s.1 66 86 = 4001 := h1
        omega
    have ln : (o ++ [a0]).length = o.length + 1 := by rw [List.length_append]; rfl
    refine ⟨Or.inr ⟨by omega, by omega⟩, fun i hi h4 => ?_⟩
    rw [List.getElem?_append_left (by omega)]
    exact h2 i (by omega) h4
  · exact cx_I_uf rfl rfl hI (by omega) (by omega)
  · exact cx_F_uf rfl (cx_F_refl _ _)
  · exact rf_f_uf rfl (rf_f_refl _ _)
  · obtain ⟨h1, h2⟩ := ho
    show wb_Sp (sx_uf s.1 66 86 (s.1 66 86) 66 86) (s.2.1 122) (o ++ [a0])
    rw [px_us]
    have ln : (o ++ [a0]).length = o.length + 1 := by rw [List.length_append]; rfl
    have hl : 4000 < (o.length : Int) ∧ s.1 66 86 = 4001 := by
      rcases h1 with ⟨h0, h1⟩ | ⟨h0, h1⟩
      · have h1' : s.1 66 86 = (o.length : Int) := h1
        omega
      · exact ⟨h0, h1⟩
    refine ⟨Or.inr ⟨by omega, hl.2⟩, fun i hi h4 => ?_⟩
    rw [List.getElem?_append_left (by omega)]
    exact h2 i (by omega) h4
theorem w_b_putM {CALL : sx_Ca} {sL : Nat} {sx : Nat → Int32} {Q : Nat → sx_L → sx_S → Prop} {R : Int → sx_S → Prop} {s : sx_S} {a0 : Int} (p0 : 0 ≤ a0 ∧ a0 ≤ 241) (hQ : Q 2 [(0, .inr (.inl 66)), (1, .inl a0), (2, .inl 0)] s) : sx_wp true sL sx eX12_putName CALL [(2, [0, 1, 2])] Q R 400 0 (sx_argsF 0 [.inr (.inl 66), .inl a0]) [] s := by
  repeat' (first | (with_reducible intro _) | (refine And.intro ?_ ?_))
  all_goals (try dsimp only at *)
  all_goals (first | trivial | assumption | omega | skip)
theorem w_b_putM2 {CALL : sx_Ca} {sL : Nat} {sx : Nat → Int32} {Q : Nat → sx_L → sx_S → Prop} {R : Int → sx_S → Prop} {s : sx_S} {a0 x2 c : Int} {PW : sx_S → Prop} (hI : cx_I s) (p0 : 0 ≤ a0 ∧ a0 ≤ 241) (p2 : 0 ≤ x2 ∧ x2 ≤ 240) (pp : 0 ≤ s.2.1 70 a0.toNat ∧ s.2.1 70 a0.toNat ≤ 100000) (hB : x2 < s.2.1 71 a0.toNat → ∀ y, y = s.2.1 70 a0.toNat + x2 → ∀ K : Int → sx_S → Prop, K c s → CALL 151 [.inr (.inl 66), .inl y] s K) (hP : x2 < s.2.1 71 a0.toNat → ∀ K : Int → sx_S → Prop, (∀ z t, PW t → K z t) → CALL 203 [.inr (.inl 66), .inl c] s K) (hQ : x2 < s.2.1 71 a0.toNat → ∀ t, PW t → Q 2 [(0, .inr (.inl 66)), (1, .inl a0), (2, .inl (x2 + 1))] t) (hK : s.2.1 71 a0.toNat ≤ x2 → R 0 s) : sx_wp true sL sx eX12_putName CALL [(2, [0, 1, 2])] Q R 400 2 [(0, .inr (.inl 66)), (1, .inl a0), (2, .inl x2)] [] s := by
  have r71 := hI.arr 71 (by decide) rfl a0.toNat
  have r70 := hI.arr 70 (by decide) rfl a0.toNat
  have zz1 : sx_w true (s.2.1 70 a0.toNat + x2) = s.2.1 70 a0.toNat + x2 := px_wid (by omega) (by omega)
  have zz2 : sx_w true (x2 + 1) = x2 + 1 := px_wid (by omega) (by omega)
  rw [← zz2] at hQ
  repeat' (first | (with_reducible (rintro _ rfl)) | (with_reducible intro _) | (refine And.intro ?_ ?_) | (refine hB (by omega) _ zz1 _ ?_) | (refine hP (by omega) _ (fun zzz zzt zzp => ?_)) | (fail))
  all_goals (try dsimp only at *)
  all_goals (first | trivial | assumption | omega | (exfalso; omega) | (exact hK (by omega)) | (exact hQ (by omega) _ zzp) | skip)
theorem c_b_putM (nm : Int → List Int) {sL : Nat} {sx : Nat → Int32} (hsL : sL ≤ 3072) (d : Nat) (hd : 3 ≤ d) : ∀ (k u : Int) (s : sx_S) (K : Int → sx_S → Prop), cx_I s → we_Rn (wb_E nm) s → (0 ≤ k ∧ k < s.1 66 42) → u = s.2.1 95 k.toNat → (0 ≤ u ∧ u ≤ 241) → (∀ z t, we_PT (wb_E nm) s t ((wb_E nm).1.2.2 k) → K z t) → sx_C sL sx d 205 [.inr (.inl 66), .inl u] s K := by
  intro k u s K hI hR hk hu pu hK
  obtain ⟨e1, ⟨e2, e3⟩, e4, e5⟩ := hR trivial k hk.1 hk.2
  have r3 := hI.fld 66 3 (by decide) rfl
  rw [← hu] at e2 e3 e4 e5
  have en : nm k = (List.range (s.2.1 71 u.toNat).toNat).map (fun j : Nat => s.2.1 68 (s.2.1 70 u.toNat + (j : Int)).toNat) := by
    rw [e1]
    unfold wb_nm
    rw [← hu]
  obtain ⟨d, rfl⟩ : ∃ e, d = e + 2 := ⟨d - 2, by omega⟩
  refine sx_methL (wr := true) (n := 400) (n' := 400) (stop := [(2, [0, 1, 2])]) (fun n pc ls v => pc = 2 ∧ ∃ x2 : Nat, ls = [(0, .inr (.inl 66)), (1, .inl u), (2, .inl (x2 : Int))] ∧ (x2 : Int) ≤ s.2.1 71 u.toNat ∧ we_PT (wb_E nm) s v ((nm k).take x2) ∧ n = (s.2.1 71 u.toNat).toNat - x2) hsL (e := eX12_putName) rfl ?_ ?_
  · exact w_b_putM pu ⟨_, rfl, 0, rfl, by omega, we_PT_0 hI, rfl⟩
  · rintro n pc ls v ⟨rfl, x2, rfl, h2, hv, rfl⟩
    have f70 : v.2.1 70 = s.2.1 70 := (hv.2.1.same 70 rfl).2
    have f71 : v.2.1 71 = s.2.1 71 := (hv.2.1.same 71 rfl).2
    have f68 : v.2.1 68 = s.2.1 68 := (hv.2.1.same 68 rfl).2
    have f3 : v.1 66 3 = s.1 66 3 := hv.2.2.1 3 rfl
    have r68 := hI.arr 68 (by decide) rfl (s.2.1 70 u.toNat + (x2 : Int)).toNat
    refine w_b_putM2 (c := s.2.1 68 (s.2.1 70 u.toNat + (x2 : Int)).toNat) (PW := fun t => we_PT (wb_E nm) v t [s.2.1 68 (s.2.1 70 u.toNat + (x2 : Int)).toNat]) hv.1 pu (by omega) (by rw [f70]; omega) (fun q y hy K' hK' => ?_) (fun q K' hK' => c_b_put nm hsL (d + 1) (by omega) _ v K' hv.1 (by omega) hK') (fun q t ht => ?_) (fun q => hK 0 v ?_)
    · rw [f71] at q
      rw [f70] at hy
      refine c_rx_byteAt hsL (d + 1) (by omega) (s.2.1 68) (s.1 66 3) y v K' hv.1 (by omega) f68 f3 (fun z _ z1 _ => ?_)
      rw [z1 (by omega), hy]
      exact hK'
    · rw [f71] at q
      refine ⟨(s.2.1 71 u.toNat).toNat - (x2 + 1), by omega, rfl, x2 + 1, by rw [show ((x2 + 1 : Nat) : Int) = (x2 : Int) + 1 by omega], by omega, ?_, rfl⟩
      have et : (nm k).take (x2 + 1) = (nm k).take x2 ++ [s.2.1 68 (s.2.1 70 u.toNat + (x2 : Int)).toNat] := by
        rw [List.take_succ]
        congr 1
        rw [en, List.getElem?_map, List.getElem?_range (by omega)]
        rfl
      rw [et]
      exact we_PT_t hv ht
    · rw [f71] at q
      have et : (nm k).take x2 = nm k := List.take_of_length_le (by rw [en, List.length_map, List.length_range]; omega)
      rw [et] at hv
      exact hv
theorem wb_K (nm : Int → List Int) {sL : Nat} {sx : Nat → Int32} (hsL : sL ≤ 3072) : we_K (wb_E nm) sL sx := fun _ => by
  have hP := c_b_put nm (sL := sL) (sx := sx) hsL
  have hN := fun d hd => c_b_putN (E := wb_E nm) rfl (sL := sL) (sx := sx) hsL hP d hd
  refine ⟨hP, hN, c_b_putM nm hsL, fun d hd a0 a1 s K hI p0 p1 hK => ?_⟩
  obtain ⟨d, rfl⟩ : ∃ e, d = e + 2 := ⟨d - 2, by omega⟩
  have hI1 : cx_I (s.1, sx_ua s.2.1 107 a0.toNat a1, s.2.2) := cx_I_ua rfl rfl hI p1.1 p1.2
  refine sx_meth (wr := true) (n := 400) hsL (e := eX12_lambda) rfl (w_lambdaC (Q := fun _ _ _ => False) (P1 := fun t => we_PT (wb_E nm) (s.1, sx_ua s.2.1 107 a0.toNat a1, s.2.2) t [92]) (P2 := fun t t2 => we_PT (wb_E nm) t t2 (120 :: wb_dg a1)) (P3 := fun t t2 => we_PT (wb_E nm) t t2 [46]) hI p0 p1 (fun K' hK' => hP (d + 1) (by omega) 92 _ K' hI1 (by omega) hK') (fun t ht K' hK' => hN (d + 1) (by omega) 120 a1 t K' ht.1 (by omega) p1 hK') (fun t t2 _ ht K' hK' => hP (d + 1) (by omega) 46 t2 K' ht.1 (by omega) hK') (fun t t2 t3 h1 h2 h3 => ?_))
  have h := we_PT_t (we_PT_t h1 h2) h3
  refine hK 0 t3 h.1 (cx_F_step h.2.1 rfl (cx_F_ua rfl (cx_F_refl _ _))) (rf_f_step h.2.2.1 rfl (rf_f_ua (rf_f_refl _ _))) (fun j => ?_) (fun o ho => ?_)
  · rw [(h.2.1.same 107 rfl).2]
    show sx_ua s.2.1 107 a0.toNat a1 107 j = _
    rw [sx_ua_same]
  · have ho' : we_Sp (wb_E nm) ((s.1, sx_ua s.2.1 107 a0.toNat a1, s.2.2) : sx_S) o := by
      show wb_Sp (s.1 66 86) (sx_ua s.2.1 107 a0.toNat a1 122) o
      rw [sx_ua_ne (by decide)]
      exact ho
    have := h.2.2.2 o ho'
    exact this
