section
/-! ===== two heads are taken apart: what is left to be done ===== -/
def dv_zp (F F' : rf_N) (c d : List (Int × Int)) (L mk : Int) : List dv_E := List.zipWith (fun a b => ((a, c), (b, d), L, mk)) (vx_el F) (vx_el F')
theorem dv_zp_len {F F' : rf_N} {c d : List (Int × Int)} {L mk : Int} (h : rf_len F = rf_len F') : (dv_zp F F' c d L mk).length = rf_len F := by
  unfold dv_zp
  rw [List.length_zipWith, vx_el_len, vx_el_len, ← h]
  omega
theorem dv_zp_at {F F' : rf_N} {c d : List (Int × Int)} {L mk : Int} {i : Nat} {A B : rf_N} (h1 : (vx_el F)[i]? = some A) (h2 : (vx_el F')[i]? = some B) : (dv_zp F F' c d L mk)[i]? = some ((A, c), (B, d), L, mk) := by
  unfold dv_zp
  rw [List.getElem?_zipWith, h1, h2]
theorem c_dv_ta {sL : Nat} {sx : Nat → Int32} (hsL : sL ≤ 3072) (d : Nat) (hd : 3 ≤ d) : ∀ (AR : Nat → List Int) (r : List dv_E) (c e : List (Int × Int)) (L : Int) (j : Nat) (k h : Int) (F : rf_N) (j' : Nat) (k' h' : Int) (F' : rf_N) (s : sx_S) (K : Int → sx_S → Prop), cx_I s → dv_cu s AR (rf_n j k h F .leaf) c (rf_n j' k' h' F' .leaf) e L → (k = 1 ∨ k = 2) → (k' = 1 ∨ k' = 2) → dv_ps s AR (s.1 29 3) r → s.1 39 6 = (r.length : Int) → r.length + 4 ≤ 512 → ((k ≠ k' ∨ rf_len F ≠ rf_len F' ∨ (k = 2 ∧ dv_lk c h ≠ dv_lk e h') ∨ (k ≠ 2 ∧ h ≠ h')) → K 0 s) → (k = k' → rf_len F = rf_len F' → (k = 2 → dv_lk c h = dv_lk e h') → (k ≠ 2 → h = h') → ∀ u, cx_I u → cx_F [(39, 45)] s u → dv_ps u AR (u.1 29 3) (dv_zp F F' c e L (s.1 29 3) ++ r) → u.1 39 6 = (r.length : Int) + (rf_len F : Int) → K 1 u) → sx_C sL sx d 78 [.inr (.inl 38)] s K := by
  intro AR r c e L j k h F j' k' h' F' s K hI hcu hk hk' hps h39 hr hK0 hK1
  obtain ⟨⟨c1, c2⟩, ⟨c3, c4⟩, c5⟩ := hcu trivial
  have h0 := hI.fld 11 6 (by decide) rfl
  have h29 := hI.fld 29 3 (by decide) rfl
  have z1 := dv_at_z c1
  have z2 := dv_at_z c3
  obtain ⟨_, _, a1, a2, _, a3, a4, _, a5, _⟩ := dv_at_hd c1
  obtain ⟨_, _, b1, b2, _, b3, b4, _, b5, _⟩ := dv_at_hd c3
  obtain ⟨a6, a7⟩ := a4 (by omega)
  obtain ⟨b6, b7⟩ := b4 (by omega)
  have a8 := a5 (by omega)
  have b8 := b5 (by omega)
  have ra := hI.arr 13 (by decide) rfl (s.1 38 8).toNat
  have rb := hI.arr 13 (by decide) rfl (s.1 38 10).toNat
  obtain ⟨d, rfl⟩ : ∃ e, d = e + 2 := ⟨d - 2, by omega⟩
  refine sx_methL (wr := true) (n := 400) (n' := 400) (stop := [(165, [0, 1, 2])]) (fun nn pc ls u => pc = 165 ∧ ∃ (x1 x2 : Int), ls = [(0, .inr (.inl 38)), (1, .inl x1), (2, .inl x2)] ∧ ((x1 = 0 ∧ u = s ∧ (-1 ≤ x2 ∧ x2 ≤ 3) ∧ (k ≠ k' ∨ rf_len F ≠ rf_len F' ∨ (k = 2 ∧ dv_lk c h ≠ dv_lk e h') ∨ (k ≠ 2 ∧ h ≠ h')) ∧ nn = 0) ∨ (x1 = 1 ∧ (k = k' ∧ rf_len F = rf_len F' ∧ (k = 2 → dv_lk c h = dv_lk e h') ∧ (k ≠ 2 → h = h')) ∧ (-1 ≤ x2 ∧ x2 < (rf_len F : Int)) ∧ cx_I u ∧ cx_F [(39, 45)] s u ∧ dv_ps u AR (u.1 29 3) ((dv_zp F F' c e L (s.1 29 3)).drop (x2 + 1).toNat ++ r) ∧ u.1 39 6 + x2 + 1 = (r.length : Int) + (rf_len F : Int) ∧ nn = (x2 + 1).toNat))) hsL (e := eX6_takeApart) rfl ?_ ?_
  · refine w_dv_ta (lv := dv_lk c h) (lv' := dv_lk e h') (c_dz_kind hsL (d + 1) (by omega)) (c_dz_head hsL (d + 1) (by omega)) (c_dz_arity hsL (d + 1) (by omega)) (fun _ K hK => ?_) (fun _ K hK => ?_) hI z1 z2 (dv_lk_rng hI c2 _) (dv_lk_rng hI c4 _) (by omega) (fun q => hK0 ?_) (fun q1 q2 q3 q4 => ?_) (fun q1 q2 q3 => ?_)
    · rw [a2] at ra ⊢
      exact c_dv_of hsL (d + 1) (by omega) _ _ _ c _ _ hI ra c2 (Int.le_refl _) hK
    · rw [b2] at rb ⊢
      exact c_dv_of hsL (d + 1) (by omega) _ _ _ e _ _ hI rb c4 (Int.le_refl _) hK
    · rw [a1, b1, a6, b6] at q
      rcases q with q | q
      · exact Or.inl q
      · exact Or.inr (Or.inl (by omega))
    · rw [a1] at q1 q3 q4
      rw [b1] at q1
      rw [a2, b2] at q4
      rw [a6, b6] at q2
      refine ⟨_, rfl, 1, _, rfl, Or.inr ⟨rfl, ⟨q1, by omega, q3, q4⟩, by omega, hI, cx_F_refl _ _, ?_, by omega, rfl⟩⟩
      have e1 : (s.2.1 16 (s.1 38 8).toNat - 1 + 1).toNat = rf_len F := by omega
      rw [e1, List.drop_of_length_le (by rw [dv_zp_len (by omega)]; exact Nat.le_refl _)]
      exact hps
    · rw [a1] at q3
      rw [a2, b2] at q3
      refine ⟨_, rfl, 0, _, rfl, Or.inl ⟨rfl, rfl, by omega, ?_, rfl⟩⟩
      exact Or.inr (Or.inr q3)
  · rintro nn pc ls u ⟨rfl, x1, x2, rfl, ⟨rfl, rfl, i1, i2, rfl⟩ | ⟨rfl, ⟨g1, g2, g3, g4⟩, i1, i2, i3, i4, i5, rfl⟩⟩
    · exact w_dv_ta165 (w := 0) (w' := 0) (c_dv_mark hsL (d + 1) (by omega)) (c_dv_pair39 hsL (d + 1) (by omega)) (fun _ q => absurd q (by decide)) (fun _ q => absurd q (by decide)) hI (Or.inl rfl) (by omega) (fun _ q => absurd q (by decide)) (fun _ => by omega) (fun _ => hK0 i2) (fun _ q => absurd q (by decide))
    · have f : ∀ q, q < 39 → u.1 q = s.1 q ∧ u.2.1 q = s.2.1 q := fun q hq => (i3 q).1 (by
        show cx_out [(39, 45)] q
        simp [cx_out]
        omega)
      have e38 : u.1 38 = s.1 38 := (f 38 (by decide)).1
      have e29 : u.1 29 = s.1 29 := (f 29 (by decide)).1
      have e11 : u.1 11 = s.1 11 := (f 11 (by decide)).1
      have zl := dv_zp_len (F := F) (F' := F') (c := c) (d := e) (L := L) (mk := s.1 29 3) g2
      by_cases hx : 0 ≤ x2
      · have hnd : ∀ {G : rf_N} {i : Int}, dz_nd s G i → dz_nd u G i := fun {G i} hG => by
          show rf_nd (u.2.1 12) (u.2.1 13) (u.2.1 14) (u.2.1 15) (u.1 11 6) G i
          rw [e11, (f 12 (by decide)).2, (f 13 (by decide)).2, (f 14 (by decide)).2, (f 15 (by decide)).2]
          exact hG
        have hnf : dv_nf (u.1 11 6) AR AR u u := dv_nf_refl _ _ _
        have a3' : dz_nd u F (u.2.1 14 (u.1 38 8).toNat) := by
          rw [e38, (f 14 (by decide)).2]
          exact hnd a3
        have b3' : dz_nd u F' (u.2.1 14 (u.1 38 10).toNat) := by
          rw [e38, (f 14 (by decide)).2]
          exact hnd b3
        have a8' : dv_tr (u.2.1 16) AR F := by rw [(f 16 (by decide)).2]; exact a8
        have b8' : dv_tr (u.2.1 16) AR F' := by rw [(f 16 (by decide)).2]; exact b8
        obtain ⟨w, hw⟩ := dv_drx x2.toNat a3'
        obtain ⟨w', hw'⟩ := dv_drx x2.toNat b3'
        obtain ⟨A, eA, tA⟩ := dv_el_at (by omega) a8' hw
        obtain ⟨B, eB, tB⟩ := dv_el_at (by omega) b8' hw'
        have zat := dv_zp_at (c := c) (d := e) (L := L) (mk := s.1 29 3) eA eB
        have hlt : x2.toNat < (dv_zp F F' c e L (s.1 29 3)).length := by omega
        have zdr : (dv_zp F F' c e L (s.1 29 3)).drop x2.toNat = ((A, c), (B, e), L, s.1 29 3) :: (dv_zp F F' c e L (s.1 29 3)).drop (x2.toNat + 1) := by
          rw [List.drop_eq_getElem_cons hlt]
          rw [List.getElem?_eq_getElem hlt] at zat
          rw [Option.some.inj zat]
        have rlen : (((dv_zp F F' c e L (s.1 29 3)).drop (x2 + 1).toNat ++ r).length : Int) = u.1 39 6 := by
          rw [List.length_append, List.length_drop, zl]
          omega
        refine w_dv_ta165 (w := w) (w' := w') (c_dv_mark hsL (d + 1) (by omega)) (c_dv_pair39 hsL (d + 1) (by omega)) (fun _ _ K hK => ?_) (fun _ _ K hK => ?_) i2 (Or.inr rfl) (by omega) (fun _ _ => ⟨dv_at_z tA, dv_at_z tB⟩) (fun _ => by omega) (fun q => absurd q (by omega)) (fun _ _ t t1 t2 t3 => ?_)
        · refine c_dz_arg hsL (d + 1) (by omega) _ _ F _ _ i2 (by rw [e38, e11]; exact z1) (by omega) a3' (fun z _ q2 => ?_)
          rw [dv_nd1 q2 hw]
          exact hK
        · refine c_dz_arg hsL (d + 1) (by omega) _ _ F' _ _ i2 (by rw [e38, e11]; exact z2) (by omega) b3' (fun z _ q2 => ?_)
          rw [dv_nd1 q2 hw']
          exact hK
        · obtain ⟨s1, s2, s3, s4, s5, s6, s7, s8⟩ := t3 trivial
          have g : ∀ q, q < 39 → t.1 q = u.1 q ∧ t.2.1 q = u.2.1 q := fun q hq => (t2 q).1 (by
            show cx_out [(39, 45)] q
            simp [cx_out]
            omega)
          have hnf2 : dv_nf (u.1 11 6) AR AR u t := fun _ => ⟨fun _ => ⟨by rw [(g 11 (by decide)).1]; exact Int.le_refl _, fun i _ => by
            rw [(g 12 (by decide)).2, (g 13 (by decide)).2, (g 14 (by decide)).2, (g 15 (by decide)).2, (g 16 (by decide)).2]
            exact ⟨rfl, rfl, rfl, rfl, rfl⟩⟩, fun _ _ => rfl⟩
          have hch : ∀ i : Nat, t.2.1 30 i = u.2.1 30 i ∧ t.2.1 31 i = u.2.1 31 i ∧ t.2.1 32 i = u.2.1 32 i := fun i => by
            rw [(g 30 (by decide)).2, (g 31 (by decide)).2, (g 32 (by decide)).2]
            exact ⟨rfl, rfl, rfl⟩
          have hus : ∀ i : Nat, u.2.1 30 i = s.2.1 30 i ∧ u.2.1 31 i = s.2.1 31 i ∧ u.2.1 32 i = s.2.1 32 i := fun i => by
            rw [(f 30 (by decide)).2, (f 31 (by decide)).2, (f 32 (by decide)).2]
            exact ⟨rfl, rfl, rfl⟩
          have l1 : t.1 29 3 = s.1 29 3 := by rw [(g 29 (by decide)).1, e29]
          have ix : (u.1 39 6).toNat = ((dv_zp F F' c e L (s.1 29 3)).drop (x2 + 1).toNat ++ r).length := by omega
          rw [ix] at s3 s4 s5 s6 s7 s8
          have key : dv_ps t AR (t.1 29 3) (((A, c), (B, e), L, s.1 29 3) :: ((dv_zp F F' c e L (s.1 29 3)).drop (x2 + 1).toNat ++ r)) := by
            refine ⟨⟨by show s.1 29 3 ≤ t.1 29 3; omega, h29.1⟩, ⟨?_, ?_⟩, ⟨?_, ?_⟩, ⟨?_, ?_⟩, ?_⟩
            · rw [s3]
              exact dv_at_fr (Int.le_refl _) hnf2 tA
            · rw [s4]
              show dv_c t c (s.1 29 3) (u.1 38 9)
              rw [e38]
              exact dv_ch_fr (fun i _ => hch i) (dv_ch_fr (fun i _ => hus i) c2)
            · rw [s5]
              exact dv_at_fr (Int.le_refl _) hnf2 tB
            · rw [s6]
              show dv_c t e (s.1 29 3) (u.1 38 11)
              rw [e38]
              exact dv_ch_fr (fun i _ => hch i) (dv_ch_fr (fun i _ => hus i) c4)
            · rw [s7]
              show u.1 38 12 = L
              rw [e38]
              exact c5
            · rw [s8]
              show u.1 29 3 = s.1 29 3
              rw [e29]
            · refine dv_ps_fr (Int.le_refl _) hnf2 (fun i _ => hch i) (fun i hi => ?_) (by rw [e29] at i4; exact i4)
              obtain ⟨o1, o2, o3, o4, o5, o6⟩ := s2 i (by omega)
              exact ⟨o1, o2, o3, o4, o5, o6⟩
          refine ⟨x2.toNat, by omega, rfl, 1, x2 - 1, rfl, Or.inr ⟨rfl, ⟨g1, g2, g3, g4⟩, by omega, t1, cx_F_step t2 rfl i3, ?_, by omega, by omega⟩⟩
          rw [show (x2 - 1 + 1).toNat = x2.toNat by omega, zdr, List.cons_append, show x2.toNat + 1 = (x2 + 1).toNat by omega]
          exact key
      · have ex : x2 = -1 := by omega
        refine w_dv_ta165 (w := 0) (w' := 0) (c_dv_mark hsL (d + 1) (by omega)) (c_dv_pair39 hsL (d + 1) (by omega)) (fun q => absurd q hx) (fun q => absurd q hx) i2 (Or.inr rfl) (by omega) (fun q => absurd q hx) (fun q => absurd q hx) (fun _ => hK1 g1 g2 g3 g4 u i2 i3 ?_ (by omega)) (fun q => absurd q hx)
        rw [ex] at i4
        exact i4
end
section
/-! ===== the desk's solver: the walk, its pieces ===== -/
theorem w_dv_fu {CALL : sx_Ca} {sL : Nat} {sx : Nat → Int32} {Q : Nat → sx_L → sx_S → Prop} {R : Int → sx_S → Prop} (h_head : ∀ (a0 : Int) (s : sx_S) (K : Int → sx_S → Prop), cx_I s → (-2147483648 ≤ a0 ∧ a0 ≤ 2147483647) → (∀ z : Int, (0 ≤ a0 → a0 < s.1 11 6 → z = s.2.1 13 a0.toNat) → (a0 < 0 → z = -1) → K z s) → CALL 92 [.inr (.inl 11), .inl a0] s K) (h_body : ∀ (a0 : Int) (s : sx_S) (K : Int → sx_S → Prop), cx_I s → (-2147483648 ≤ a0 ∧ a0 ≤ 2147483647) → (∀ z : Int, (0 ≤ a0 → a0 < s.1 33 6 → z = s.2.1 34 a0.toNat) → (a0 < 0 → z = -1) → K z s) → CALL 4 [.inr (.inl 33), .inl a0] s K) (h_dv_mark : ∀ (s : sx_S) (K : Int → sx_S → Prop), cx_I s → (∀ z : Int, (z = s.1 29 3) → K z s) → CALL 44 [.inr (.inl 29)] s K) (h_push : ∀ (a0 a1 a2 a3 : Int) (s : sx_S) (R : Int → sx_S → Prop), cx_I s → s.1 46 6 < 512 → (-2147483648 ≤ a0 ∧ a0 ≤ 2147483647) → (-2147483648 ≤ a1 ∧ a1 ≤ 2147483647) → (-2147483648 ≤ a2 ∧ a2 ≤ 2147483647) → (-2147483648 ≤ a3 ∧ a3 ≤ 2147483647) → (∀ z t, cx_I t → cx_F [(46, 52)] s t → dv_pu 46 (a0, a1, -1, -1, a2, a3) s t → R z t) → CALL 60 [.inr (.inl 46), .inl a0, .inl a1, .inl a2, .inl a3] s R) {s : sx_S} {a0 a1 a2 m b al : Int} {P : Int → Prop} {G2 : Int → sx_S → Prop} {G3 : Int → Int → sx_S → Prop} (h_alw : m ≠ s.1 38 7 → ∀ K : Int → sx_S → Prop, (∀ z, P z → K z s) → CALL 82 [.inr (.inl 38), .inl a0, .inl a1] s K) (h_ala : ∀ K : Int → sx_S → Prop, K al s → CALL 75 [.inr (.inl 38), .inl a0] s K) (h_nar : ∀ kp, P kp → b < 0 → kp ≠ al → ∀ K : Int → sx_S → Prop, (∀ t, G2 kp t → K 0 t) → CALL 9 [.inr (.inl 33), .inl a0, .inl kp] s K) (h_ins : ∀ kp, P kp → 0 ≤ b → cx_I (s.1, sx_ua s.2.1 53 m.toNat (dv_and (s.2.1 53 m.toNat) kp), s.2.2) → ∀ K : Int → sx_S → Prop, (∀ k' t, G3 kp k' t → K k' t) → CALL 6 [.inr (.inl 33), .inl a0, .inl a1] (s.1, sx_ua s.2.1 53 m.toNat (dv_and (s.2.1 53 m.toNat) kp), s.2.2) K) (hP : ∀ kp, P kp → 0 ≤ kp ∧ kp < 32) (hG3 : ∀ kp k' t, G3 kp k' t → cx_I t ∧ (-2147483648 ≤ k' ∧ k' ≤ 2147483647) ∧ t.1 46 6 < 512) (hI : cx_I s) (p0 : 0 ≤ a0 ∧ a0 < s.1 11 6) (p1 : -2147483648 ≤ a1 ∧ a1 ≤ 2147483647) (p2 : -2147483648 ≤ a2 ∧ a2 ≤ 2147483647) (em : s.2.1 13 a0.toNat = m) (pm : 0 ≤ m ∧ m < s.1 33 6) (eb : s.2.1 34 m.toNat = b) (ra : -2147483648 ≤ al ∧ al ≤ 2147483647) (hK0 : m = s.1 38 7 → R 0 s) (hK1 : m ≠ s.1 38 7 → ∀ kp, P kp → b < 0 → kp = al → R 1 s) (hK2 : m ≠ s.1 38 7 → ∀ kp, P kp → b < 0 → kp ≠ al → ∀ t, G2 kp t → R 1 t) (hK3 : m ≠ s.1 38 7 → ∀ kp, P kp → 0 ≤ b → dv_and (s.2.1 53 m.toNat) kp = (s.2.1 53 m.toNat) → R 1 s) (hK4 : m ≠ s.1 38 7 → ∀ kp, P kp → 0 ≤ b → dv_and (s.2.1 53 m.toNat) kp ≠ (s.2.1 53 m.toNat) → ∀ k' t, G3 kp k' t → ∀ t', cx_I t' → cx_F [(46, 52)] t t' → dv_pu 46 (b, k', -1, -1, a2, t.1 29 3) t t' → R 1 t') : sx_wp true sL sx eX6_fitUnknown CALL [] Q R 400 0 (sx_argsF 0 [.inr (.inl 38), .inl a0, .inl a1, .inl a2]) [] s := by
  have h0 := hI.fld 11 6 (by decide) rfl
  have h33 := hI.fld 33 6 (by decide) rfl
  have h7 := hI.fld 38 7 (by decide) rfl
  have r34 := hI.arr 34 (by decide) rfl m.toNat
  have r53 := hI.arr 53 (by decide) rfl m.toNat
  have zzi : ∀ kp, -2147483648 ≤ dv_and (s.2.1 53 m.toNat) kp → dv_and (s.2.1 53 m.toNat) kp ≤ 2147483647 → cx_I (s.1, sx_ua s.2.1 53 m.toNat (dv_and (s.2.1 53 m.toNat) kp), s.2.2) := fun kp h1 h2 => cx_I_ua rfl rfl hI h1 h2
  repeat' (first | (with_reducible (rintro _ rfl)) | (with_reducible intro _) | (refine And.intro ?_ ?_) | (refine h_head _ _ _ hI (by omega) (fun v v1 v2 => ?_); obtain rfl : v = m := (v1 p0.1 p0.2).trans em) | (refine h_alw (by omega) _ (fun kp zzp => ?_); have zzq := hP kp zzp) | (refine h_body _ s _ hI (by omega) (fun v v1 v2 => ?_); obtain rfl : v = b := (v1 pm.1 pm.2).trans eb) | (refine h_ala _ ?_) | (refine h_nar _ zzp (by omega) (by omega) _ (fun t zzt => ?_)) | (refine h_ins _ zzp (by omega) (zzi _ (by assumption) (by assumption)) _ (fun k' t zzt => ?_); obtain ⟨zzt1, zzt2, zzt3⟩ := hG3 _ _ _ zzt; have zz29 := zzt1.fld 29 3 (by decide) rfl) | (refine h_dv_mark t _ zzt1 (fun v v1 => ?_); obtain rfl := v1) | (refine h_push _ _ _ _ t _ zzt1 zzt3 (by omega) zzt2 p2 (by omega) (fun z t' q1 q2 q3 => ?_)))
  all_goals (try dsimp only at *)
  all_goals (first | trivial | assumption | omega | (exfalso; omega) | (exact hK0 (by omega)) | (exact hK1 (by omega) _ zzp (by omega) (by omega)) | (exact hK2 (by omega) _ zzp (by omega) (by omega) _ zzt) | (exact hK3 (by omega) _ zzp (by omega) (by assumption)) | (exact hK4 (by omega) _ zzp (by omega) (by assumption) _ _ zzt _ q1 q2 q3) | skip)
end
