/-! ===== an unknown is given a term: state and memory ===== -/
def dv_gT (S : vx_S) (sf : Int) (B : rf_N) (P : List (Int × Int)) : vx_S := (S.1, S.2.1, S.2.2.1, fun v => if v = sf then some (B, dv_lk P.reverse) else S.2.2.2.1 v, S.2.2.2.2)
/-- what the memory is then -/
def dv_gm (sf b : Int) (P : List (Int × Int)) (u t : sx_S) : Prop := True → t.1 = u.1 ∧ (∀ i : Nat, t.2.1 34 i = if i = sf.toNat then b else u.2.1 34 i) ∧ dv_pr t sf P ∧ (∀ i : Nat, i ≠ sf.toNat → t.2.1 35 i = u.2.1 35 i) ∧ (∀ i : Nat, i < sf.toNat * 4 ∨ sf.toNat * 4 + 4 ≤ i → t.2.1 36 i = u.2.1 36 i ∧ t.2.1 37 i = u.2.1 37 i)
theorem dv_G_gv {tv tc : Int → rf_T} {n0 : Int} {Qs : (Int → rf_N) → Prop} {r : List dv_E} {sf L b : Int} {AL : Int → Prop} {bs : Nat} {mk0 : Int} {cL cR : List (Int × Int)} {j : Nat} {F B : rf_N} {u t : sx_S} {S : vx_S} {PR : Int → List (Int × Int)} {tm : Int → Int → rf_T} (hQ : ∀ th th', vx_ag n0 th th' → Qs th → Qs th') (hWK : dv_WK tv tc n0 Qs ((rf_n j 3 sf F .leaf, dv_lk cL), (B, dv_lk cR), L) (B, dv_lk cR) r sf L AL bs mk0 cL cR u S PR tm [] []) (hAL : ∀ v, AL v → v < L → v ∈ (S.2.2.2.2 j).map (dv_lk cL)) (hjn : (S.2.2.2.2 j).Nodup) (hb : dv_at u S.2.2.2.2 B b) (hB : vx_lh B ≤ 67 ∧ vx_hh B ≤ 26 ∧ vx_hz B ≤ 1024) (hIt : cx_I t) (hF : cx_F [(33, 37)] u t) (hm : dv_gm sf b (dv_gp cR 0 ((S.2.2.2.2 j).map (dv_lk cL))) u t) : ∃ T PR', vx_l2 (fun C => C = B) S T ∧ dv_G tv tc n0 Qs t T PR' tm [] r := by
  obtain ⟨hG, _, ⟨f7, f12, L0, fal⟩, hse, ⟨hH, hKn⟩, _, ⟨o1, o2, ⟨o3, o4, o5⟩, _⟩, hbs, hmk, _, hps, h2p⟩ := hWK trivial
  obtain ⟨g1, g2, g3, g4, ⟨g5, g6⟩, g7, g8⟩ := hG trivial
  obtain ⟨⟨W, B1, Sc, rk, hrk⟩, TS⟩ := g3 trivial
  obtain ⟨⟨M1, M2, M3, M5⟩, M4⟩ := g2 trivial
  obtain ⟨lt, ty, sL, sR⟩ := h2p trivial
  obtain ⟨⟨iL, _, tL⟩, vL, ⟨_, ckL⟩, _⟩ := sL trivial
  obtain ⟨⟨iR, sgB, tR⟩, vR, ⟨_, ckR⟩, _, nbR⟩ := sR trivial
  have hlen := vx_in_len iL
  have x0 := vx_sd_open o1 hlen sL
  obtain ⟨s0, s1⟩ := iL.1 sf (Or.inl ⟨rfl, rfl⟩)
  obtain ⟨lkL1, lkL2⟩ := vx_ck_lk L0 ckL
  obtain ⟨lkR1, _⟩ := vx_ck_lk L0 ckR
  have xn : ((S.2.2.2.2 j).map (dv_lk cL)).Nodup := by
    refine List.pairwise_map.mpr (List.Pairwise.imp_of_mem (fun {a b} ha hb' hne e => ?_) hjn)
    exact hne (lkL2 a b (x0 a ha) e)
  have xp : ∀ x ∈ (S.2.2.2.2 j).map (dv_lk cL), 0 ≤ x := fun x hx => by
    obtain ⟨y, y1, y2⟩ := List.mem_map.mp hx
    rw [← y2]
    exact x0 y y1
  have xl : (((S.2.2.2.2 j).map (dv_lk cL)).length : Int) = S.2.2.1 sf := by rw [List.length_map]; exact hlen
  obtain ⟨e1, e2, e3⟩ := dv_gp_eu ckR xn xp
  have P1 := dv_gp_fst ckR (i := 0) xn
  have P2 : ((dv_gp cR 0 ((S.2.2.2.2 j).map (dv_lk cL))).map Prod.snd).Nodup := List.Pairwise.imp (fun q e => by omega) (dv_gp_snd (e := cR) (l := (S.2.2.2.2 j).map (dv_lk cL)) (i := 0)).1
  have P3 : ∀ q ∈ dv_gp cR 0 ((S.2.2.2.2 j).map (dv_lk cL)), (0 ≤ q.2 ∧ q.2 < S.2.2.1 sf) ∧ 0 ≤ q.1 ∧ q.1 ∈ cR.map Prod.fst ∧ ∃ y, (S.2.2.2.2 j)[q.2.toNat]? = some y ∧ dv_lk cR q.1 = dv_lk cL y ∧ 0 ≤ dv_lk cL y := fun q hq => by
    obtain ⟨i, x, a1, a2, a3, a4⟩ := dv_gp_mem.mp hq
    rw [Nat.zero_add] at a2
    obtain ⟨hi, _⟩ := List.getElem?_eq_some_iff.mp a1
    rw [a2]
    refine ⟨⟨by show 0 ≤ (i : Int); omega, by show (i : Int) < _; omega⟩, a4, ?_, ?_⟩
    · rcases dv_va_in (l := cR) (x := x) with w | ⟨w, _⟩
      · exact List.mem_map.mpr ⟨_, w, rfl⟩
      · omega
    · rw [List.getElem?_map] at a1
      cases hy : (S.2.2.2.2 j)[i]? with
      | none =>
        rw [hy] at a1
        cases a1
      | some y =>
        rw [hy] at a1
        have a5 : dv_lk cL y = x := Option.some.inj a1
        refine ⟨y, by show (S.2.2.2.2 j)[((i : Int)).toNat]? = _; rw [Int.toNat_natCast]; exact hy, ?_, by rw [a5]; exact a3⟩
        show dv_lk cR (dv_va cR x) = _
        rw [dv_va_lk ckR a4, a5]
  obtain ⟨okB, gB⟩ := (hH (vx_U S) _ rk hrk (vx_ex_U S) (vx_eg_E S sf o1)).2 (fun c hc => absurd hc List.not_mem_nil)
  have hz : ∀ z, vx_fv (vx_U S) S.2.2.2.2 z B → 0 ≤ dv_lk (dv_gp cR 0 ((S.2.2.2.2 j).map (dv_lk cL))).reverse z := fun z hz => by
    obtain ⟨i, h1, h2⟩ := List.getElem_of_mem (hAL _ (okB z hz) (lkR1 z).2)
    rw [e1 z i (by rw [List.getElem?_eq_getElem h1, h2])]
    omega
  have hgv : vx_gv S (dv_gT S sf B (dv_gp cR 0 ((S.2.2.2.2 j).map (dv_lk cL)))) sf B (dv_lk (dv_gp cR 0 ((S.2.2.2.2 j).map (dv_lk cL))).reverse) := ⟨⟨rfl, rfl, rfl, rfl⟩, ⟨o1, s0, s1⟩, fun _ => rfl, ⟨iR, vx_sg_1 sgB⟩, fun z => by have := e3 z; omega⟩
  have hle := vx_gv_le hgv
  have hU : ∀ v i, v < S.1 → vx_U (dv_gT S sf B (dv_gp cR 0 ((S.2.2.2.2 j).map (dv_lk cL)))) v i → vx_U S v i := fun v i _ h => vx_gv_U hgv hz v i h
  have hJ := vx_J_give (j := j) (F := F) (u := sf) (L := L) g8 W hgv hQ (fun q hq => by
    rcases List.mem_cons.mp hq with rfl | hq
    · exact ⟨o4, o5⟩
    · exact dv_es_in g7 q hq) xn (fun x hx => by
      obtain ⟨y, _, y2⟩ := List.mem_map.mp hx
      rw [← y2]
      exact (lkL1 y).2) (fun z => (lkR1 z).2) e1 (fun z hz' => (e2 z hz').1)
  obtain ⟨rk', hrk'⟩ := vx_gv_rk hgv hrk gB
  obtain ⟨m1, m2, m3, m4, m5⟩ := hm trivial
  have nf : dv_nf (u.1 11 6) S.2.2.2.2 S.2.2.2.2 u t := dv_nf_F _ hF (by decide)
  obtain ⟨PR', hPR⟩ : ∃ f : Int → List (Int × Int), ∀ v, f v = if v = sf then dv_gp cR 0 ((S.2.2.2.2 j).map (dv_lk cL)) else PR v := ⟨fun v => if v = sf then dv_gp cR 0 ((S.2.2.2.2 j).map (dv_lk cL)) else PR v, fun _ => rfl⟩
  obtain ⟨_, _, _, _, _, c5, _⟩ := g4 trivial
  refine ⟨dv_gT S sf B (dv_gp cR 0 ((S.2.2.2.2 j).map (dv_lk cL))), PR', vx_gv_l2 hgv, fun _ => ⟨hIt, fun _ => ⟨⟨?_, ?_, M3, fun v v0 v1 => ?_⟩, fun v v0 v1 => ?_⟩, fun _ => ⟨⟨vx_gv_W hgv W, vx_gv_B1 hgv B1, vx_gv_Sc hgv hz Sc, rk', hrk'⟩, fun v B' e' hb' => ?_⟩, vx_CT_gv hgv hB g4, ⟨?_, by rw [m1]; exact g6⟩, dv_es_le W hle hU (fun _ _ _ => rfl) g7, hJ⟩⟩
  · rw [m1]
    exact M1
  · rw [m1]
    exact M2
  · have v0' : S.1 ≤ (v : Int) := v0
    rw [m2, if_neg (by omega)]
    exact M5 v v0 v1
  · obtain ⟨av, bv⟩ := M4 v v0 v1
    refine ⟨av, ?_⟩
    by_cases q : v = sf
    · refine Or.inr ⟨B, ?_, ?_, ?_, fun w hw => ?_, ?_, ?_⟩
      · show (if v = sf then _ else S.2.2.2.1 v) = some (_, dv_lk (PR' v).reverse)
        rw [if_pos q, hPR, if_pos q]
      · rw [m2, if_pos (by rw [q])]
        exact dv_at_fr (Int.le_refl _) nf hb
      · rw [hPR, if_pos q, q]
        exact m3
      · rw [hPR, if_pos q] at hw
        rw [q]
        exact (P3 w hw).1
      · rw [hPR, if_pos q]
        exact P1
      · rw [hPR, if_pos q]
        exact P2
    · have hne : v.toNat ≠ sf.toNat := by omega
      rcases bv with ⟨b1, b2⟩ | ⟨B', b1, b2, b3, b4, b5, b6⟩
      · refine Or.inl ⟨?_, by rw [m2, if_neg hne]; exact b2⟩
        show (if v = sf then _ else S.2.2.2.1 v) = none
        rw [if_neg q]
        exact b1
      · refine Or.inr ⟨B', ?_, ?_, ?_, fun w hw => ?_, ?_, ?_⟩
        · show (if v = sf then _ else S.2.2.2.1 v) = some (_, dv_lk (PR' v).reverse)
          rw [if_neg q, hPR, if_neg q]
          exact b1
        · rw [m2, if_neg hne]
          exact dv_at_fr (Int.le_refl _) nf b2
        · rw [hPR, if_neg q]
          intro _
          obtain ⟨r1, r2, r3⟩ := b3 trivial
          refine ⟨by rw [m4 _ hne]; exact r1, r2, fun i w hw => ?_⟩
          obtain ⟨r4, r5⟩ := r3 i w hw
          obtain ⟨hi, _⟩ := List.getElem?_eq_some_iff.mp hw
          obtain ⟨r6, r7⟩ := m5 (v * 4 + (i : Int)).toNat (by omega)
          exact ⟨r6.trans r4, r7.trans r5⟩
        · rw [hPR, if_neg q] at hw
          exact b4 w hw
        · rw [hPR, if_neg q]
          exact b5
        · rw [hPR, if_neg q]
          exact b6
  · have hb2 : (if v = sf then some (B, dv_lk (dv_gp cR 0 ((S.2.2.2.2 j).map (dv_lk cL))).reverse) else S.2.2.2.1 v) = some (B', e') := hb'
    by_cases q : v = sf
    · rw [if_pos q] at hb2
      rw [hPR, if_pos q]
      obtain ⟨rfl, rfl⟩ := Prod.mk.inj (Option.some.inj hb2)
      have tyb : ty = rf_b := by
        rcases tL with ⟨w, _⟩ | ⟨w, _⟩ | ⟨w, _⟩ | ⟨_, w, _⟩
        · exact absurd w vx_30
        · have w' : (3 : Int) = 1 := w
          omega
        · have w' : (3 : Int) = 2 := w
          omega
        · exact w
      refine ⟨rfl, ⟨sgB, by rw [tyb] at tR; exact tR⟩, fun w hw => ?_, P1, P2, vx_nb_mono (fun z hz' => ?_) nbR⟩
      · obtain ⟨p1, p2, _, y, y1, y2, y3⟩ := P3 w hw
        have c1 := vx_ty_call tL _ _ y1
        rw [Int.toNat_of_nonneg p1.1] at c1
        refine ⟨?_, p1.1, by rw [q]; exact p1.2, p2⟩
        rw [vR w.1 (by rw [y2]; exact y3), y2, ← vL y y3, c1, q]
      · obtain ⟨w, w1, w2⟩ := List.mem_map.mp hz'
        rw [← w2]
        exact (P3 w w1).2.2.1
    · rw [if_neg q] at hb2
      rw [hPR, if_neg q]
      exact TS v B' e' hb2
  · rw [m1]
    refine dv_ps_fr (Int.le_refl _) nf (fun i _ => ?_) (fun i _ => ?_) g5
    · rw [(hF.same 30 rfl).2, (hF.same 31 rfl).2, (hF.same 32 rfl).2]
      exact ⟨rfl, rfl, rfl⟩
    · rw [(hF.same 40 rfl).2, (hF.same 41 rfl).2, (hF.same 42 rfl).2, (hF.same 43 rfl).2, (hF.same 44 rfl).2, (hF.same 45 rfl).2]
      exact ⟨rfl, rfl, rfl, rfl, rfl, rfl⟩
