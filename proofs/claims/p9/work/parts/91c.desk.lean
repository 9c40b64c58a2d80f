/-! ===== values of trees that have types ===== -/
/-- constants of the text, calls with all their ARGs -/
def wt_t (S : vx_S) (nC : Int) : rf_N → Prop
  | .leaf => True
  | .inner j q _ F X => ((q.1 = 0 ∧ vx_sg F ∧ wt_t S nC F) ∨ (q.1 = 1 ∧ (0 ≤ q.2 ∧ q.2 < nC) ∧ wt_t S nC F) ∨ (q.1 = 2 ∧ wt_t S nC F) ∨ (q.1 = 3 ∧ 0 ≤ q.2 ∧ ((S.2.2.2.2 j).length : Int) = S.2.2.1 q.2 ∧ (S.2.2.2.2 j).length ≤ 4)) ∧ wt_t S nC X
/-- what is known of the bodies -/
def wt_B (tc : Int → rf_T) (tm : Int → Int → rf_T) (S : vx_S) (U : Int → Int → Prop) (nC : Int) : Prop := True → (∀ m i, S.2.2.2.1 m = none → 0 ≤ i → i < S.2.2.1 m → U m i) ∧ ∀ m B e, S.2.2.2.1 m = some (B, e) → ∃ tv, (vx_sg B ∧ (vx_ty tv tc tm S.2.2.2.2 B).1 rf_b ∧ wt_t S nC B) ∧ (∀ z, e z < S.2.2.1 m) ∧ ∀ z, vx_fv U S.2.2.2.2 z B → U m (e z) ∧ 0 ≤ e z ∧ tv z = tm m (e z)
theorem wt_se {tc : Int → rf_T} {tm : Int → Int → rf_T} {S : vx_S} {U : Int → Int → Prop} {th : Int → rf_N} {rk : Int → Nat} {nC : Int} (hS : vx_So S th) (ho : ∀ m, S.2.2.2.1 m = none → th m = vx_gn S.2.2.1 m) (hrk : vx_rk S rk) (hB : wt_B tc tm S U nC) : ∀ (r : Nat) (A : rf_N), vx_bl rk r A → wt_t S nC A → (∀ (tv : Int → rf_T) (e : Int → Int) (L : Int) (lt : Int → rf_T) (t : rf_T), A ≠ .leaf → 0 ≤ L → (vx_ty tv tc tm S.2.2.2.2 (vx_1 A)).1 t → (∀ z, vx_fv U S.2.2.2.2 z (vx_1 A) → (0 ≤ e z ∧ e z < L) ∧ tv z = lt (e z)) → (wt tc nC (wk_ht tm) (vx_val th S.2.2.2.2 (vx_1 A) e L)).1 lt L t) ∧ (∀ (tv : Int → rf_T) (e : Int → Int) (L : Int) (lt : Int → rf_T) (u : rf_T), 0 ≤ L → (vx_ty tv tc tm S.2.2.2.2 A).2 u → (∀ z, vx_fv U S.2.2.2.2 z A → (0 ≤ e z ∧ e z < L) ∧ tv z = lt (e z)) → (wt tc nC (wk_ht tm) (vx_val th S.2.2.2.2 A e L)).2 lt L u) := by
  have hg : ∀ m, vx_on (th m) := fun m => (hS.1 m).1
  obtain ⟨hU1, hBd⟩ := hB trivial
  intro r
  induction r using Nat.strongRecOn with
  | _ r ihr =>
    intro A
    induction A with
    | leaf => exact fun _ _ => ⟨fun _ _ _ _ _ h => absurd rfl h, fun _ _ _ _ _ _ h _ => h⟩
    | inner j q u F X ihF ihX =>
      intro hbl htt
      obtain ⟨t1, t3⟩ := htt
      have bF : q.1 ≠ 3 → vx_bl rk r F := fun h3 m hm => hbl m (Or.inr (Or.inl ⟨h3, hm⟩))
      have bX : vx_bl rk r X := fun m hm => hbl m (Or.inr (Or.inr hm))
      obtain ⟨_, x2⟩ := ihX bX t3
      have one : ∀ (tv : Int → rf_T) (e : Int → Int) (L : Int) (lt : Int → rf_T) (t : rf_T), 0 ≤ L → (vx_ty tv tc tm S.2.2.2.2 (.inner j q () F .leaf)).1 t → (∀ z, vx_fv U S.2.2.2.2 z (.inner j q () F .leaf) → (0 ≤ e z ∧ e z < L) ∧ tv z = lt (e z)) → (wt tc nC (wk_ht tm) (vx_val th S.2.2.2.2 (.inner j q () F .leaf) e L)).1 lt L t := by
        intro tv e L lt t L0 ty hf
        have ev := vx_val_in th S.2.2.2.2 j q () F .leaf e L
        rcases t1 with ⟨q0, sF, tF⟩ | ⟨q1, hh, tF⟩ | ⟨q2, tF⟩ | ⟨q3, m0, hl, h4⟩
        · rcases ty with ⟨_, B, eB, yB⟩ | ⟨z, _⟩ | ⟨z, _⟩ | ⟨z, _⟩
          · have ih := (ihF (bF (by omega)) tF).1 tv (vx_up e q.2 L) (L + 1) (fun l => if l = L then tv q.2 else lt l) B (vx_sg_1 sF).1 (by omega) (by rw [(vx_sg_1 sF).2]; exact yB) (fun z hz => by
              rw [(vx_sg_1 sF).2] at hz
              unfold vx_up
              by_cases c : z = q.2
              · rw [if_pos c, if_pos rfl, c]
                exact ⟨⟨L0, by omega⟩, rfl⟩
              · obtain ⟨⟨e0, e1⟩, e2⟩ := hf z (Or.inl (Or.inl ⟨q0, c, hz⟩))
                rw [if_neg c, if_neg (by omega)]
                exact ⟨⟨e0, by omega⟩, e2⟩)
            rw [(vx_sg_1 sF).2] at ih
            have on : vx_on (vx_val th S.2.2.2.2 F (vx_up e q.2 L) (L + 1)) := by
              obtain ⟨j', k', h', G, rfl⟩ := sF
              exact vx_val_one hg _ _ _ _ _ _
            rw [ev, if_pos q0]
            exact Or.inl ⟨rfl, on, tv q.2, B, eB, ih⟩
          · omega
          · omega
          · omega
        · have fF : ∀ z, vx_fv U S.2.2.2.2 z F → (0 ≤ e z ∧ e z < L) ∧ tv z = lt (e z) := fun z hz => hf z (Or.inl (Or.inr (Or.inr ⟨by omega, by omega, Or.inr hz⟩)))
          rcases ty with ⟨z, _⟩ | ⟨_, et, yF⟩ | ⟨z, _⟩ | ⟨z, _⟩
          · omega
          · rw [ev, if_neg (by omega), if_neg (by omega), if_neg (by omega)]
            exact Or.inr (Or.inr (Or.inl ⟨q1, hh, et, (ihF (bF (by omega)) tF).2 tv e L lt _ L0 yF fF⟩))
          · omega
          · omega
        · have fF : ∀ z, vx_fv U S.2.2.2.2 z F → (0 ≤ e z ∧ e z < L) ∧ tv z = lt (e z) := fun z hz => hf z (Or.inl (Or.inr (Or.inr ⟨by omega, by omega, Or.inr hz⟩)))
          have hv := (hf q.2 (Or.inl (Or.inr (Or.inr ⟨by omega, by omega, Or.inl ⟨q2, rfl⟩⟩)))).2
          rcases ty with ⟨z, _⟩ | ⟨z, _⟩ | ⟨_, et, yF⟩ | ⟨z, _⟩
          · omega
          · omega
          · rw [ev, if_neg (by omega), if_neg (by omega), if_pos q2]
            have w := (ihF (bF (by omega)) tF).2 tv e L lt _ L0 yF fF
            rw [hv] at w
            exact Or.inr (Or.inr (Or.inr ⟨q2, et, w⟩))
          · omega
        · have tyr : t = rf_b ∧ ∀ (i : Nat) y, (S.2.2.2.2 j)[i]? = some y → tv y = tm q.2 i := by
            rcases ty with ⟨z, _⟩ | ⟨z, _⟩ | ⟨z, _⟩ | ⟨_, z1, z2⟩
            · omega
            · omega
            · omega
            · exact ⟨z1, z2⟩
          have e0 : (.inner j q () F .leaf : rf_N) = rf_n j 3 q.2 F .leaf := by
            show rf_n j q.1 q.2 F .leaf = _
            rw [q3]
          have hbm : rk q.2 < r := hbl q.2 (Or.inl ⟨q3, rfl⟩)
          rw [e0] at hf ⊢
          cases hb : S.2.2.2.1 q.2 with
          | none =>
            obtain ⟨Fv, e1, e2⟩ := wd_open (L := L) (F := F) (e := e) (j := j) hS (ho q.2 hb) hl
            have e1' : vx_val th S.2.2.2.2 (rf_n j 3 q.2 F .leaf) e L = .inner 0 (1, -1 - q.2) () Fv .leaf := e1
            rw [e1']
            refine Or.inr (Or.inl ⟨⟨rfl, by show -1 - q.2 < 0; omega⟩, tyr.1, fun i y hy => ?_⟩)
            rw [e2, List.getElem?_map] at hy
            cases hz : (S.2.2.2.2 j)[i]? with
            | none =>
              rw [hz] at hy
              cases hy
            | some z =>
              rw [hz] at hy
              have ey : e z = y := Option.some.inj hy
              have hi := (List.getElem?_eq_some_iff.mp hz).1
              obtain ⟨⟨a0, _⟩, a2⟩ := hf z (Or.inl (Or.inr (Or.inl ⟨rfl, i, hz, hU1 q.2 (i : Int) hb (by omega) (by omega)⟩)))
              rw [← ey]
              refine ⟨?_, a0⟩
              show (wk_ht tm (-1 - q.2)).getD i .leaf = _
              rw [wk_ht_at (by omega), ← tyr.2 i z hz]
              exact a2
          | some p =>
            obtain ⟨B, em⟩ := p
            obtain ⟨tv', ⟨sB, yB, tB⟩, hlt, hfB⟩ := hBd q.2 B em hb
            have hv : vx_val th S.2.2.2.2 (rf_n j 3 q.2 F .leaf) e L = vx_val th S.2.2.2.2 B (fun z => ((S.2.2.2.2 j).map e).getD (em z).toNat (-1)) L := vx_call_body hS hb hl hlt (fun z _ => rfl)
            have ih := (ihr (rk q.2) hbm B (fun m hm => hrk q.2 B em m hb hm) tB).1 tv' (fun z => ((S.2.2.2.2 j).map e).getD (em z).toNat (-1)) L lt t (vx_sg_1 sB).1 L0 (by rw [(vx_sg_1 sB).2, tyr.1]; exact yB) (fun z hz => by
              rw [(vx_sg_1 sB).2] at hz
              obtain ⟨u1, u2, u3⟩ := hfB z hz
              have u4 := hlt z
              have hi : (em z).toNat < (S.2.2.2.2 j).length := by omega
              have hy : (S.2.2.2.2 j)[(em z).toNat]? = some (S.2.2.2.2 j)[(em z).toNat] := List.getElem?_eq_getElem hi
              have ei : (((em z).toNat : Nat) : Int) = em z := Int.toNat_of_nonneg u2
              obtain ⟨a1, a2⟩ := hf (S.2.2.2.2 j)[(em z).toNat] (Or.inl (Or.inr (Or.inl ⟨rfl, (em z).toNat, hy, by rw [ei]; exact u1⟩)))
              have ee : ((S.2.2.2.2 j).map e).getD (em z).toNat (-1) = e (S.2.2.2.2 j)[(em z).toNat] := wt_gm hi
              have et := tyr.2 (em z).toNat _ hy
              rw [ei] at et
              show (0 ≤ ((S.2.2.2.2 j).map e).getD (em z).toNat (-1) ∧ ((S.2.2.2.2 j).map e).getD (em z).toNat (-1) < L) ∧ tv' z = lt (((S.2.2.2.2 j).map e).getD (em z).toNat (-1))
              rw [ee]
              exact ⟨a1, by rw [u3, ← et]; exact a2⟩)
            rw [(vx_sg_1 sB).2] at ih
            rw [hv]
            exact ih
      refine ⟨fun tv e L lt t _ L0 ty hf => one tv e L lt t L0 ty hf, fun tv e L lt w L0 ty hf => ?_⟩
      obtain ⟨A', B, eq, y1, y2⟩ := ty
      have w1 := one tv e L lt A' L0 y1 (fun z hz => hf z (by
        rcases hz with hz | hz
        · exact Or.inl hz
        · exact hz.elim))
      have w2 := x2 tv e L lt B L0 y2 (fun z hz => hf z (Or.inr hz))
      rw [vx_val_1 hg j q u F X e L]
      obtain ⟨k', h', G, hG⟩ := vx_val_one hg (AR := S.2.2.2.2) j q u F e L
      have hG'' : vx_val th S.2.2.2.2 (.inner j q () F .leaf) e L = rf_n 0 k' h' G .leaf := hG
      rw [hG''] at w1 ⊢
      exact ⟨A', B, eq, w1, w2⟩
/-- the desk's trees -/
theorem wt_t_dv {S : vx_S} {nC : Int} {A16 : Nat → Int} : ∀ {A : rf_N}, dv_tr A16 S.2.2.2.2 A → wk_kc nC A → vx_ok S.2.2.1 S.2.2.2.2 A → wt_t S nC A
  | .leaf, _, _, _ => trivial
  | .inner j q u F X, ⟨t1, t2, t3⟩, ⟨k1, k2, k3⟩, ho => by
    refine ⟨?_, wt_t_dv t3 k3 ho.2⟩
    rcases t1 with ⟨q0, sF, tF⟩ | ⟨q12, _, tF⟩ | ⟨q3, ⟨_, l4⟩, aF, _, _⟩
    · exact Or.inl ⟨q0, sF, wt_t_dv tF (k2 (by omega)) (wz_ok_F ho (by omega))⟩
    · have hF := wt_t_dv tF (k2 (by omega)) (wz_ok_F ho (by omega))
      rcases q12 with q1 | q2
      · exact Or.inr (Or.inl ⟨q1, ⟨t2, k1 q1⟩, hF⟩)
      · exact Or.inr (Or.inr (Or.inl ⟨q2, hF⟩))
    · refine Or.inr (Or.inr (Or.inr ⟨q3, t2, ?_, ?_⟩))
      · rcases ho.1 with ⟨z, _⟩ | ⟨_, z⟩
        · omega
        · exact z
      · rw [aF, dz_hs_len]
        exact l4
theorem wt_sd {tv tc : Int → rf_T} {tm : Int → Int → rf_T} {S : vx_S} {PR : Int → List (Int × Int)} {th : Int → rf_N} {rk : Int → Nat} {nC : Int} {A16 : Nat → Int} (hT : vx_TS tv tc tm S PR) (hS : vx_So S th) (ho : ∀ m, S.2.2.2.1 m = none → th m = vx_gn S.2.2.1 m) (hrk : vx_rk S rk) (hbt : ∀ u B e, S.2.2.2.1 u = some (B, e) → dv_tr A16 S.2.2.2.2 B ∧ wk_kc nC B) {r : Nat} {A : rf_N} (hbl : vx_bl rk r A) (htr : dv_tr A16 S.2.2.2.2 A) (hkc : wk_kc nC A) {c : List (Int × Int)} {L : Int} {lt : Int → rf_T} {t : rf_T} (sd : vx_sd tv tc tm S lt L t A c) : (wt tc nC (wk_ht tm) (vx_val th S.2.2.2.2 A (dv_lk c) L)).1 lt L t := by
  obtain ⟨⟨W, _, Sc, _⟩, TS⟩ := hT trivial
  have hB : wt_B tc tm S (vx_U S) nC := fun _ => ⟨fun m i h1 h2 h3 => (vx_U_cl S).1 m i h1 h2 h3, fun m B e hb => by
    obtain ⟨ee, ⟨sB, yB⟩, pB, n1, n2, _⟩ := TS m B e hb
    obtain ⟨b1, b2⟩ := hbt m B e hb
    obtain ⟨_, win, wlt⟩ := W m B e hb
    refine ⟨tv, ⟨sB, yB, wt_t_dv b1 b2 win.2.2⟩, wlt, fun z hz => ?_⟩
    have s1 := Sc m B e z hb hz
    refine ⟨(vx_U_cl S).2 m B e z hb hz, s1, ?_⟩
    rw [ee] at s1 ⊢
    rcases dv_lk_in (l := (PR m).reverse) (x := z) with q | ⟨q, _⟩
    · exact (pB _ (List.mem_reverse.mp q)).1
    · omega⟩
  obtain ⟨⟨in1, sg, ty⟩, lt1, ⟨L0, ck⟩, fv, _⟩ := sd trivial
  have w := (wt_se hS ho hrk hB r A hbl (wt_t_dv htr hkc in1.2.2)).1 tv (dv_lk c) L lt t (vx_sg_1 sg).1 L0 (by rw [(vx_sg_1 sg).2]; exact ty) (fun z hz => by
    rw [(vx_sg_1 sg).2] at hz
    have z0 := fv z hz
    exact ⟨⟨z0, ((vx_ck_lk L0 ck).1 z).2⟩, lt1 z z0⟩)
  rw [(vx_sg_1 sg).2] at w
  exact w
/-- rows of what the desk has numbered -/
theorem wd_rows {u : sx_S} {S : vx_S} {a : List (Int × List Int)} (hN : wd_N u S a) (h4 : ∀ m, 0 ≤ m → m < S.1 → S.2.2.1 m ≤ 4) (hop : ∀ p ∈ a, ∀ m, p.1 = -1 - m → S.2.2.2.1 m = none) (h0 : ∀ p ∈ a, ∀ y ∈ p.2, 0 ≤ y) : wt_rows a := by
  obtain ⟨_, h2, h3, h5⟩ := hN trivial
  refine ⟨h2, fun p hp => ?_⟩
  obtain ⟨m, e, m0, m1⟩ := h3 p hp
  rcases (h5 m m0 m1).1 (hop p hp m e) with ⟨_, c⟩ | ⟨i, xs, c1, _, c3, c4, _⟩
  · exact absurd (List.mem_map.mpr ⟨p, hp, e⟩) c
  · have ex : p.2 = xs := by
      obtain ⟨i', hi'⟩ := List.mem_iff_getElem?.mp hp
      have hi2 : a[i']? = some (-1 - m, p.2) := by rw [hi', ← e]
      have e1 := we_rw_at h2 hi2
      have e2 := we_rw_at h2 c1
      rw [← e1, e2]
    have := h4 m m0 m1
    rw [ex]
    exact ⟨by omega, c4, fun y hy => h0 p hp y (by rw [ex]; exact hy)⟩
