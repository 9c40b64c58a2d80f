section
/-! ===== values of trees that have types ===== -/
/-- constants of the text, calls with all their ARGs -/
def wt_t (S : vx_S) (nC : Int) : rf_N → Prop
  | .leaf => True
  | .inner j q _ F X => ((q.1 = 0 ∧ vx_sg F ∧ wt_t S nC F) ∨ (q.1 = 1 ∧ (0 ≤ q.2 ∧ q.2 < nC) ∧ wt_t S nC F) ∨ (q.1 = 2 ∧ wt_t S nC F) ∨ (q.1 = 3 ∧ 0 ≤ q.2 ∧ ((S.2.2.2.2 j).length : Int) = S.2.2.1 q.2 ∧ (S.2.2.2.2 j).length ≤ 4)) ∧ wt_t S nC X
/-- what is known of the bodies -/
def wt_B (tc : Int → rf_T) (tm : Int → Int → rf_T) (S : vx_S) (U : Int → Int → Prop) (nC : Int) : Prop := True → (∀ m i, S.2.2.2.1 m = none → 0 ≤ i → i < S.2.2.1 m → U m i) ∧ ∀ m B e, S.2.2.2.1 m = some (B, e) → ∃ tv, (vx_sg B ∧ (vx_ty tv tc tm S.2.2.2.2 B).1 rf_b ∧ wt_t S nC B) ∧ (∀ z, e z < S.2.2.1 m) ∧ ∀ z, vx_fv U S.2.2.2.2 z B → U m (e z) ∧ 0 ≤ e z ∧ tv z = tm m (e z)
theorem wt_se {tc : Int → rf_T} {tm : Int → Int → rf_T} {S : vx_S} {U : Int → Int → Prop} {th : Int → rf_N} {rk : Int → Nat} {nC : Int} (hS : vx_So S th) (ho : ∀ m, S.2.2.2.1 m = none → th m = vx_gn S.2.2.1 m) (hrk : vx_rk S rk) (hB : wt_B tc tm S U nC) : ∀ (r : Nat) (A : rf_N), vx_bl rk r A → wt_t S nC A → (∀ (tv : Int → rf_T) (e : Int → Int) (L : Int) (lt : Int → rf_T) (t : rf_T), A ≠ .leaf → 0 ≤ L → (vx_ty tv tc tm S.2.2.2.2 (vx_1 A)).1 t → (∀ z, vx_fv U S.2.2.2.2 z (vx_1 A) → (0 ≤ e z ∧ e z < L) ∧ tv z = lt (e z)) → (wt tc nC (wk_ht tm) (vx_val th S.2.2.2.2 (vx_1 A) e L)).1 lt L t) ∧ (∀ (tv : Int → rf_T) (e : Int → Int) (L : Int) (lt : Int → rf_T) (u : rf_T), 0 ≤ L → (vx_ty tv tc tm S.2.2.2.2 A).2 u → (∀ z, vx_fv U S.2.2.2.2 z A → (0 ≤ e z ∧ e z < L) ∧ tv z = lt (e z)) → (wt tc nC (wk_ht tm) (vx_val th S.2.2.2.2 A e L)).2 lt L u) := by
  have hg : ∀ m, vx_on (th m) := fun m => (hS.1 m).1
  obtain ⟨hU1, hBd⟩ := hB trivial
  intro r
  induction r using Nat.strongRecOn with
  | _ r ihr =>
    intro A
    induction A with
    | leaf => exact fun _ _ => ⟨fun _ _ _ _ _ h => absurd rfl h, fun _ _ _ _ _ _ h _ => h⟩
    | inner j q u F X ihF ihX =>
      intro hbl htt
      obtain ⟨t1, t3⟩ := htt
      have bF : q.1 ≠ 3 → vx_bl rk r F := fun h3 m hm => hbl m (Or.inr (Or.inl ⟨h3, hm⟩))
      have bX : vx_bl rk r X := fun m hm => hbl m (Or.inr (Or.inr hm))
      obtain ⟨_, x2⟩ := ihX bX t3
      have one : ∀ (tv : Int → rf_T) (e : Int → Int) (L : Int) (lt : Int → rf_T) (t : rf_T), 0 ≤ L → (vx_ty tv tc tm S.2.2.2.2 (.inner j q () F .leaf)).1 t → (∀ z, vx_fv U S.2.2.2.2 z (.inner j q () F .leaf) → (0 ≤ e z ∧ e z < L) ∧ tv z = lt (e z)) → (wt tc nC (wk_ht tm) (vx_val th S.2.2.2.2 (.inner j q () F .leaf) e L)).1 lt L t := by
        intro tv e L lt t L0 ty hf
        have ev := vx_val_in th S.2.2.2.2 j q () F .leaf e L
        rcases t1 with ⟨q0, sF, tF⟩ | ⟨q1, hh, tF⟩ | ⟨q2, tF⟩ | ⟨q3, m0, hl, h4⟩
        · rcases ty with ⟨_, B, eB, yB⟩ | ⟨z, _⟩ | ⟨z, _⟩ | ⟨z, _⟩
          · have ih := (ihF (bF (by omega)) tF).1 tv (vx_up e q.2 L) (L + 1) (fun l => if l = L then tv q.2 else lt l) B (vx_sg_1 sF).1 (by omega) (by rw [(vx_sg_1 sF).2]; exact yB) (fun z hz => by
              rw [(vx_sg_1 sF).2] at hz
              unfold vx_up
              by_cases c : z = q.2
              · rw [if_pos c, if_pos rfl, c]
                exact ⟨⟨L0, by omega⟩, rfl⟩
              · obtain ⟨⟨e0, e1⟩, e2⟩ := hf z (Or.inl (Or.inl ⟨q0, c, hz⟩))
                rw [if_neg c, if_neg (by omega)]
                exact ⟨⟨e0, by omega⟩, e2⟩)
            rw [(vx_sg_1 sF).2] at ih
            have on : vx_on (vx_val th S.2.2.2.2 F (vx_up e q.2 L) (L + 1)) := by
              obtain ⟨j', k', h', G, rfl⟩ := sF
              exact vx_val_one hg _ _ _ _ _ _
            rw [ev, if_pos q0]
            exact Or.inl ⟨rfl, on, tv q.2, B, eB, ih⟩
          · omega
          · omega
          · omega
        · have fF : ∀ z, vx_fv U S.2.2.2.2 z F → (0 ≤ e z ∧ e z < L) ∧ tv z = lt (e z) := fun z hz => hf z (Or.inl (Or.inr (Or.inr ⟨by omega, by omega, Or.inr hz⟩)))
          rcases ty with ⟨z, _⟩ | ⟨_, et, yF⟩ | ⟨z, _⟩ | ⟨z, _⟩
          · omega
          · rw [ev, if_neg (by omega), if_neg (by omega), if_neg (by omega)]
            exact Or.inr (Or.inr (Or.inl ⟨q1, hh, et, (ihF (bF (by omega)) tF).2 tv e L lt _ L0 yF fF⟩))
          · omega
          · omega
        · have fF : ∀ z, vx_fv U S.2.2.2.2 z F → (0 ≤ e z ∧ e z < L) ∧ tv z = lt (e z) := fun z hz => hf z (Or.inl (Or.inr (Or.inr ⟨by omega, by omega, Or.inr hz⟩)))
          have hv := (hf q.2 (Or.inl (Or.inr (Or.inr ⟨by omega, by omega, Or.inl ⟨q2, rfl⟩⟩)))).2
          rcases ty with ⟨z, _⟩ | ⟨z, _⟩ | ⟨_, et, yF⟩ | ⟨z, _⟩
          · omega
          · omega
          · rw [ev, if_neg (by omega), if_neg (by omega), if_pos q2]
            have w := (ihF (bF (by omega)) tF).2 tv e L lt _ L0 yF fF
            rw [hv] at w
            exact Or.inr (Or.inr (Or.inr ⟨q2, et, w⟩))
          · omega
        · have tyr : t = rf_b ∧ ∀ (i : Nat) y, (S.2.2.2.2 j)[i]? = some y → tv y = tm q.2 i := by
            rcases ty with ⟨z, _⟩ | ⟨z, _⟩ | ⟨z, _⟩ | ⟨_, z1, z2⟩
            · omega
            · omega
            · omega
            · exact ⟨z1, z2⟩
          have e0 : (.inner j q () F .leaf : rf_N) = rf_n j 3 q.2 F .leaf := by
            show rf_n j q.1 q.2 F .leaf = _
            rw [q3]
          have hbm : rk q.2 < r := hbl q.2 (Or.inl ⟨q3, rfl⟩)
          rw [e0] at hf ⊢
          cases hb : S.2.2.2.1 q.2 with
          | none =>
            obtain ⟨Fv, e1, e2⟩ := wd_open (L := L) (F := F) (e := e) (j := j) hS (ho q.2 hb) hl
            have e1' : vx_val th S.2.2.2.2 (rf_n j 3 q.2 F .leaf) e L = .inner 0 (1, -1 - q.2) () Fv .leaf := e1
            rw [e1']
            refine Or.inr (Or.inl ⟨⟨rfl, by show -1 - q.2 < 0; omega⟩, tyr.1, fun i y hy => ?_⟩)
            rw [e2, List.getElem?_map] at hy
            cases hz : (S.2.2.2.2 j)[i]? with
            | none =>
              rw [hz] at hy
              cases hy
            | some z =>
              rw [hz] at hy
              have ey : e z = y := Option.some.inj hy
              have hi := (List.getElem?_eq_some_iff.mp hz).1
              obtain ⟨⟨a0, _⟩, a2⟩ := hf z (Or.inl (Or.inr (Or.inl ⟨rfl, i, hz, hU1 q.2 (i : Int) hb (by omega) (by omega)⟩)))
              rw [← ey]
              refine ⟨?_, a0⟩
              show (wk_ht tm (-1 - q.2)).getD i .leaf = _
              rw [wk_ht_at (by omega), ← tyr.2 i z hz]
              exact a2
          | some p =>
            obtain ⟨B, em⟩ := p
            obtain ⟨tv', ⟨sB, yB, tB⟩, hlt, hfB⟩ := hBd q.2 B em hb
            have hv : vx_val th S.2.2.2.2 (rf_n j 3 q.2 F .leaf) e L = vx_val th S.2.2.2.2 B (fun z => ((S.2.2.2.2 j).map e).getD (em z).toNat (-1)) L := vx_call_body hS hb hl hlt (fun z _ => rfl)
            have ih := (ihr (rk q.2) hbm B (fun m hm => hrk q.2 B em m hb hm) tB).1 tv' (fun z => ((S.2.2.2.2 j).map e).getD (em z).toNat (-1)) L lt t (vx_sg_1 sB).1 L0 (by rw [(vx_sg_1 sB).2, tyr.1]; exact yB) (fun z hz => by
              rw [(vx_sg_1 sB).2] at hz
              obtain ⟨u1, u2, u3⟩ := hfB z hz
              have u4 := hlt z
              have hi : (em z).toNat < (S.2.2.2.2 j).length := by omega
              have hy : (S.2.2.2.2 j)[(em z).toNat]? = some (S.2.2.2.2 j)[(em z).toNat] := List.getElem?_eq_getElem hi
              have ei : (((em z).toNat : Nat) : Int) = em z := Int.toNat_of_nonneg u2
              obtain ⟨a1, a2⟩ := hf (S.2.2.2.2 j)[(em z).toNat] (Or.inl (Or.inr (Or.inl ⟨rfl, (em z).toNat, hy, by rw [ei]; exact u1⟩)))
              have ee : ((S.2.2.2.2 j).map e).getD (em z).toNat (-1) = e (S.2.2.2.2 j)[(em z).toNat] := wt_gm hi
              have et := tyr.2 (em z).toNat _ hy
              rw [ei] at et
              show (0 ≤ ((S.2.2.2.2 j).map e).getD (em z).toNat (-1) ∧ ((S.2.2.2.2 j).map e).getD (em z).toNat (-1) < L) ∧ tv' z = lt (((S.2.2.2.2 j).map e).getD (em z).toNat (-1))
              rw [ee]
              exact ⟨a1, by rw [u3, ← et]; exact a2⟩)
            rw [(vx_sg_1 sB).2] at ih
            rw [hv]
            exact ih
      refine ⟨fun tv e L lt t _ L0 ty hf => one tv e L lt t L0 ty hf, fun tv e L lt w L0 ty hf => ?_⟩
      obtain ⟨A', B, eq, y1, y2⟩ := ty
      have w1 := one tv e L lt A' L0 y1 (fun z hz => hf z (by
        rcases hz with hz | hz
        · exact Or.inl hz
        · exact hz.elim))
      have w2 := x2 tv e L lt B L0 y2 (fun z hz => hf z (Or.inr hz))
      rw [vx_val_1 hg j q u F X e L]
      obtain ⟨k', h', G, hG⟩ := vx_val_one hg (AR := S.2.2.2.2) j q u F e L
      have hG'' : vx_val th S.2.2.2.2 (.inner j q () F .leaf) e L = rf_n 0 k' h' G .leaf := hG
      rw [hG''] at w1 ⊢
      exact ⟨A', B, eq, w1, w2⟩
/-- the desk's trees -/
theorem wt_t_dv {S : vx_S} {nC : Int} {A16 : Nat → Int} : ∀ {A : rf_N}, dv_tr A16 S.2.2.2.2 A → wk_kc nC A → vx_ok S.2.2.1 S.2.2.2.2 A → wt_t S nC A
  | .leaf, _, _, _ => trivial
  | .inner j q u F X, ⟨t1, t2, t3⟩, ⟨k1, k2, k3⟩, ho => by
    refine ⟨?_, wt_t_dv t3 k3 ho.2⟩
    rcases t1 with ⟨q0, sF, tF⟩ | ⟨q12, _, tF⟩ | ⟨q3, ⟨_, l4⟩, aF, _, _⟩
    · exact Or.inl ⟨q0, sF, wt_t_dv tF (k2 (by omega)) (wz_ok_F ho (by omega))⟩
    · have hF := wt_t_dv tF (k2 (by omega)) (wz_ok_F ho (by omega))
      rcases q12 with q1 | q2
      · exact Or.inr (Or.inl ⟨q1, ⟨t2, k1 q1⟩, hF⟩)
      · exact Or.inr (Or.inr (Or.inl ⟨q2, hF⟩))
    · refine Or.inr (Or.inr (Or.inr ⟨q3, t2, ?_, ?_⟩))
      · rcases ho.1 with ⟨z, _⟩ | ⟨_, z⟩
        · omega
        · exact z
      · rw [aF, dz_hs_len]
        exact l4
theorem wt_sd {tv tc : Int → rf_T} {tm : Int → Int → rf_T} {S : vx_S} {PR : Int → List (Int × Int)} {th : Int → rf_N} {rk : Int → Nat} {nC : Int} {A16 : Nat → Int} (hT : vx_TS tv tc tm S PR) (hS : vx_So S th) (ho : ∀ m, S.2.2.2.1 m = none → th m = vx_gn S.2.2.1 m) (hrk : vx_rk S rk) (hbt : ∀ u B e, S.2.2.2.1 u = some (B, e) → dv_tr A16 S.2.2.2.2 B ∧ wk_kc nC B) {r : Nat} {A : rf_N} (hbl : vx_bl rk r A) (htr : dv_tr A16 S.2.2.2.2 A) (hkc : wk_kc nC A) {c : List (Int × Int)} {L : Int} {lt : Int → rf_T} {t : rf_T} (sd : vx_sd tv tc tm S lt L t A c) : (wt tc nC (wk_ht tm) (vx_val th S.2.2.2.2 A (dv_lk c) L)).1 lt L t := by
  obtain ⟨⟨W, _, Sc, _⟩, TS⟩ := hT trivial
  have hB : wt_B tc tm S (vx_U S) nC := fun _ => ⟨fun m i h1 h2 h3 => (vx_U_cl S).1 m i h1 h2 h3, fun m B e hb => by
    obtain ⟨ee, ⟨sB, yB⟩, pB, n1, n2, _⟩ := TS m B e hb
    obtain ⟨b1, b2⟩ := hbt m B e hb
    obtain ⟨_, win, wlt⟩ := W m B e hb
    refine ⟨tv, ⟨sB, yB, wt_t_dv b1 b2 win.2.2⟩, wlt, fun z hz => ?_⟩
    have s1 := Sc m B e z hb hz
    refine ⟨(vx_U_cl S).2 m B e z hb hz, s1, ?_⟩
    rw [ee] at s1 ⊢
    rcases dv_lk_in (l := (PR m).reverse) (x := z) with q | ⟨q, _⟩
    · exact (pB _ (List.mem_reverse.mp q)).1
    · omega⟩
  obtain ⟨⟨in1, sg, ty⟩, lt1, ⟨L0, ck⟩, fv, _⟩ := sd trivial
  have w := (wt_se hS ho hrk hB r A hbl (wt_t_dv htr hkc in1.2.2)).1 tv (dv_lk c) L lt t (vx_sg_1 sg).1 L0 (by rw [(vx_sg_1 sg).2]; exact ty) (fun z hz => by
    rw [(vx_sg_1 sg).2] at hz
    have z0 := fv z hz
    exact ⟨⟨z0, ((vx_ck_lk L0 ck).1 z).2⟩, lt1 z z0⟩)
  rw [(vx_sg_1 sg).2] at w
  exact w
/-- rows of what the desk has numbered -/
theorem wd_rows {u : sx_S} {S : vx_S} {a : List (Int × List Int)} (hN : wd_N u S a) (h4 : ∀ m, 0 ≤ m → m < S.1 → S.2.2.1 m ≤ 4) (hop : ∀ p ∈ a, ∀ m, p.1 = -1 - m → S.2.2.2.1 m = none) (h0 : ∀ p ∈ a, ∀ y ∈ p.2, 0 ≤ y) : wt_rows a := by
  obtain ⟨_, h2, h3, h5⟩ := hN trivial
  refine ⟨h2, fun p hp => ?_⟩
  obtain ⟨m, e, m0, m1⟩ := h3 p hp
  rcases (h5 m m0 m1).1 (hop p hp m e) with ⟨_, c⟩ | ⟨i, xs, c1, _, c3, c4, _⟩
  · exact absurd (List.mem_map.mpr ⟨p, hp, e⟩) c
  · have ex : p.2 = xs := by
      obtain ⟨i', hi'⟩ := List.mem_iff_getElem?.mp hp
      have hi2 : a[i']? = some (-1 - m, p.2) := by rw [hi', ← e]
      have e1 := we_rw_at h2 hi2
      have e2 := we_rw_at h2 c1
      rw [← e1, e2]
    have := h4 m m0 m1
    rw [ex]
    exact ⟨by omega, c4, fun y hy => h0 p hp y (by rw [ex]; exact hy)⟩
end
section
/-! ===== the desk's load, with the bytes of the text ===== -/
theorem st_dk_load {sL : Nat} {sx : Nat → Int32} (hsL : sL ≤ 3072) {d : Nat} (hd : 100 ≤ d) (h_ac : ∀ (b : Nat → Int) (n : Int), ∀ (l : List ((Int × Int × qx_T) × (px_N × px_N))) (s : sx_S) (R : Int → sx_S → Prop), cx_I s → dz_TN b n s → px_TX (px_K b n) l 0 → (px_ck (px_SN b n) l [] [] 0 → ∀ t, cx_I t → (t.1 19 2 = (px_c3 3 l : Int) ∧ t.1 22 2 = (px_c3 4 l : Int) ∧ t.1 18 10 = (px_c3 5 l : Int)) → (∃ C M, dz_E b n C M t ∧ dl_pr b n (vl_eq l [] []) t ∧ t.1 11 6 ≤ 960 ∧ M = vl_mf l [] ∧ C = vl_kf l [] ∧ dw_ro M M.length t) → R 1 t) → (¬ px_ck (px_SN b n) l [] [] 0 → ∀ t, cx_I t → R 0 t) → sx_C sL sx (d + 1) 11 [.inr (.inl 18)] s R) : ∀ (a0 : Int) (s : sx_S) (K : Int → sx_S → Prop), cx_I s → (-2147483648 ≤ a0 ∧ a0 ≤ 2147483647) → (∀ (z : Int) (t : sx_S), (((a0 < 0 ∨ s.1 0 1 < a0) ∧ z = -1 ∧ t = s) ∨ ((0 ≤ a0 ∧ a0 ≤ s.1 0 1) ∧ px_an (s.2.1 1) a0 z ∧ (z = 0 → cx_I t ∧ ∃ l, px_TX (px_K (s.2.1 1) a0) l 0 ∧ px_ck (px_SN (s.2.1 1) a0) l [] [] 0 ∧ (t.1 19 2 = (px_c3 3 l : Int) ∧ t.1 22 2 = (px_c3 4 l : Int) ∧ t.1 18 10 = (px_c3 5 l : Int)) ∧ ∃ bb, (∀ k : Nat, (k : Int) < a0 → bb k = s.2.1 1 k) ∧ px_SN bb a0 = px_SN (s.2.1 1) a0 ∧ dz_E bb a0 (vl_kf l []) (vl_mf l []) t ∧ dl_pr (s.2.1 1) a0 (vl_eq l [] []) t ∧ t.1 11 6 ≤ 960 ∧ dw_ro (vl_mf l []) (vl_mf l []).length t))) → K z t) → sx_C sL sx (d + 2) 138 [.inr (.inl 0), .inl a0] s K := by
  intro a0 s K hI ra hK
  have h1 := hI.fld 0 1 (by decide) rfl
  have i1 : cx_I (sx_uf (sx_uf (sx_uf (sx_uf (sx_uf s.1 0 1 0) 0 2 0) 0 3 (-1)) 0 4 (-1)) 0 5 (-1), s.2) := cx_I_uf rfl rfl (cx_I_uf rfl rfl (cx_I_uf rfl rfl (cx_I_uf rfl rfl (cx_I_uf rfl rfl hI (by omega) (by omega)) (by omega) (by omega)) (by omega) (by omega)) (by omega) (by omega)) (by omega) (by omega)
  let bb : Nat → Int := sx_cpy s.2.1 1 3 (Int.toNat 0) (Int.toNat 0) a0.toNat 3
  have hbb : 0 ≤ a0 → ∀ k : Nat, (k : Int) < a0 → bb k = s.2.1 1 k := fun h0 k hk => by
    show (if Int.toNat 0 ≤ k ∧ k < Int.toNat 0 + a0.toNat then s.2.1 1 (Int.toNat 0 + (k - Int.toNat 0)) else s.2.1 3 k) = _
    rw [if_pos ⟨Nat.zero_le _, by show k < 0 + a0.toNat; omega⟩]
    show s.2.1 1 (0 + (k - 0)) = _
    rw [Nat.zero_add, Nat.sub_zero]
  refine sx_meth (wr := true) (n := 400) hsL (e := eX11_load) rfl (w_dl (Q := fun _ _ _ => False) (Z1 := fun t => cx_I t ∧ dz_TN bb a0 t ∧ 0 ≤ a0 ∧ a0 ≤ s.1 0 1) (Z2 := fun t => cx_I t ∧ dz_TN bb a0 t ∧ (0 ≤ a0 ∧ a0 ≤ s.1 0 1) ∧ ∃ l, px_TX (px_K bb a0) l 0) (Z3 := fun t => cx_I t ∧ (0 ≤ a0 ∧ a0 ≤ s.1 0 1) ∧ ∀ l, ¬ px_TX (px_K bb a0) l 0) (Zr := fun t => (0 ≤ a0 ∧ a0 ≤ s.1 0 1) ∧ ∃ l, px_TX (px_K bb a0) l 0 ∧ px_ck (px_SN bb a0) l [] [] 0 ∧ (t.1 19 2 = (px_c3 3 l : Int) ∧ t.1 22 2 = (px_c3 4 l : Int) ∧ t.1 18 10 = (px_c3 5 l : Int)) ∧ ∃ C M, dz_E bb a0 C M t ∧ dl_pr bb a0 (vl_eq l [] []) t ∧ t.1 11 6 ≤ 960 ∧ M = vl_mf l [] ∧ C = vl_kf l [] ∧ dw_ro M M.length t) (Zw := (0 ≤ a0 ∧ a0 ≤ s.1 0 1) ∧ ∃ l, px_TX (px_K bb a0) l 0 ∧ ¬ px_ck (px_SN bb a0) l [] [] 0) (c_dz_gpl hsL (d + 1) (by omega)) (c_dz_chp hsL (d + 1) (by omega)) (c_dz_chn hsL (d + 1) (by omega)) hI ra (fun q => hK _ _ (Or.inl ⟨q, rfl, rfl⟩)) ?_ ?_ (fun _ q => q.1) ?_ ?_ ?_ ?_)
  · intro a b K' hK'
    exact c_dx_tkread hsL (d + 1) (by omega) bb a0 a0 _ K' i1 (by omega) rfl rfl (fun z t t1 _ t3 t4 t5 => hK' z t ⟨t1, fun _ => ⟨t3, t4, t5⟩, a, b⟩)
  · rintro t ⟨t1, t2, t3, t4⟩ K' k1 k2
    have tk := (t2 trivial).2.2
    have hF : ∀ c, cx_F [(7, 7)] t ((sx_uf t.1 7 1 c, t.2) : sx_S) := fun c => cx_F_uf rfl (cx_F_refl _ _)
    have r : ∀ c : Int, 0 ≤ c → px_lv bb a0 c.toNat → c ≤ 1000 := fun c h0 hl => by
      have q1 := (px_TK_kd tk h0 hl).2.2
      have q2 := (tk trivial).1
      omega
    refine c_dg_acc hsL bb a0 (d + 1) (by omega) t K' t1 tk (fun hl c c0 cl => k1 _ ⟨cx_I_uf rfl rfl t1 ?_ ?_, fun _ => ?_, ⟨t3, t4⟩, hl⟩) (fun hl c c0 cl => k2 _ ⟨cx_I_uf rfl rfl t1 ?_ ?_, ⟨t3, t4⟩, hl⟩)
    · omega
    · have := r c c0 cl
      omega
    · exact ⟨(t2 trivial).1, (t2 trivial).2.1, px_TK_F (hF c) rfl rfl rfl rfl tk⟩
    · omega
    · have := r c c0 cl
      omega
  · rintro u ⟨_, q1, q2⟩ t
    exact hK _ _ (Or.inr ⟨q1, px_an_cg (hbb q1.1) q1.1 (Or.inl ⟨rfl, q2⟩), fun z => absurd z (by decide)⟩)
  · rintro t ⟨t1, t2, t3, l, t4⟩ K' k1 k2
    exact h_ac bb a0 l t K' t1 t2 t4 (fun q u hu hc hx => k1 u hu ⟨t3, l, t4, q, hc, hx⟩) (fun q u hu => k2 ⟨t3, l, t4, q⟩ u hu)
  · rintro u uI ⟨q1, l, q2, q3, q4, C, M, q5, q6, q7, rfl, rfl, q8⟩
    have eK := px_K_cg (hbb q1.1)
    have eS : px_SN bb a0 = px_SN (s.2.1 1) a0 := by
      funext i j
      exact propext (px_sn_cg (hbb q1.1) i.toNat j.toNat q1.1)
    have q6' : dl_pr (s.2.1 1) a0 (vl_eq l [] []) u := fun _ k p hk => by
      obtain ⟨L, R, x, a1, a2, a3, a4⟩ := q6 trivial k p hk
      refine ⟨L, R, x, a1, a2, fun _ => ?_, fun _ => ?_⟩
      · have z := a3 trivial
        rw [eS] at z
        exact z
      · have z := a4 trivial
        rw [eS] at z
        exact z
    refine hK _ _ (Or.inr ⟨q1, px_an_cg (hbb q1.1) q1.1 (Or.inr ⟨l, q2, Or.inl ⟨rfl, q3⟩⟩), fun _ => ⟨cx_I_uf rfl rfl uI (by omega) (by omega), l, by rw [← eK]; exact q2, by rw [← eS]; exact q3, q4, bb, hbb q1.1, eS, ?_, ?_, q7, ?_⟩⟩)
    · exact fun _ => q5 trivial
    · exact fun _ => q6' trivial
    · exact dw_ro_mono (u := u) (fun _ => ⟨Int.le_refl _, fun _ _ => ⟨rfl, rfl, rfl, rfl, rfl⟩⟩) ⟨Int.le_refl _, fun _ _ => rfl⟩ (fun _ => ⟨Int.le_refl _, fun _ => ⟨rfl, rfl⟩⟩) (fun _ _ => rfl) q8
  · rintro ⟨q1, l, q2, q3⟩ t
    exact hK _ _ (Or.inr ⟨q1, px_an_cg (hbb q1.1) q1.1 (Or.inr ⟨l, q2, Or.inr ⟨rfl, q3⟩⟩), fun z => absurd z (by decide)⟩)
/-- what load leaves, with the roots and the bytes of the text -/
def dk_LD (b : Nat → Int) (n : Int) (l : List vl_I) (s : sx_S) : Prop := True → dw_LD b n l s ∧ ∃ bb, (∀ k : Nat, (k : Int) < n → bb k = b k) ∧ dz_E bb n (vl_kf l []) (vl_mf l []) s
theorem dk_LD_c {b : Nat → Int} {n : Int} {l : List vl_I} {s t : sx_S} (h : ∀ p, 2 ≤ p → p ≤ 28 → t.1 p = s.1 p ∧ t.2.1 p = s.2.1 p) (g : dk_LD b n l s) : dk_LD b n l t := fun _ => by
  obtain ⟨g1, bb, g2, g3⟩ := g trivial
  exact ⟨dw_LD_c h g1, bb, g2, dz_E_c h g3⟩
theorem c_DK_load {sL : Nat} {sx : Nat → Int32} (hsL : sL ≤ 3072) (d : Nat) (hd : 170 ≤ d) : ∀ (a0 : Int) (s : sx_S) (K : Int → sx_S → Prop), cx_I s → (-2147483648 ≤ a0 ∧ a0 ≤ 2147483647) → (a0 < 0 ∨ s.1 0 1 < a0 → K (-1) s) → (0 ≤ a0 → a0 ≤ s.1 0 1 → ∀ z t, cx_I t → cx_F [(0, 28)] s t → t.1 0 1 = 0 → px_an (s.2.1 1) a0 z → ((z = 0 ∧ t.1 0 2 = 1 ∧ t.1 0 3 = -1 ∧ ∃ l, px_TX (px_K (s.2.1 1) a0) l 0 ∧ dk_LD (s.2.1 1) a0 l t) ∨ (z ≠ 0 ∧ t.1 0 2 = 0)) → K z t) → sx_C sL sx d 138 [.inr (.inl 0), .inl a0] s K := by
  intro a0 s K hI ra hN hK
  obtain ⟨d, rfl⟩ : ∃ e, d = e + 3 := ⟨d - 3, by omega⟩
  have hL : ∀ K' : Int → sx_S → Prop, (∀ (z : Int) (t : sx_S), (((a0 < 0 ∨ s.1 0 1 < a0) ∧ z = -1 ∧ t = s) ∨ ((0 ≤ a0 ∧ a0 ≤ s.1 0 1) ∧ px_an (s.2.1 1) a0 z ∧ (z = 0 → cx_I t ∧ ∃ l, px_TX (px_K (s.2.1 1) a0) l 0 ∧ px_ck (px_SN (s.2.1 1) a0) l [] [] 0 ∧ (t.1 19 2 = (px_c3 3 l : Int) ∧ t.1 22 2 = (px_c3 4 l : Int) ∧ t.1 18 10 = (px_c3 5 l : Int)) ∧ ∃ bb, (∀ k : Nat, (k : Int) < a0 → bb k = s.2.1 1 k) ∧ px_SN bb a0 = px_SN (s.2.1 1) a0 ∧ dz_E bb a0 (vl_kf l []) (vl_mf l []) t ∧ dl_pr (s.2.1 1) a0 (vl_eq l [] []) t ∧ t.1 11 6 ≤ 960 ∧ dw_ro (vl_mf l []) (vl_mf l []).length t))) → K' z t) → sx_C sL sx (d + 1 + 2) 138 [.inr (.inl 0), .inl a0] s K' := fun K' hK' => st_dk_load hsL (d := d + 1) (by omega) (fun b n => st_dw_acc hsL (d := d) (by omega) b n (fun a0 a1 s K h1 h2 h3 hK => c_nodeC hsL (d + 1) (by omega) a0 a1 s K h1 h2 h3 (fun z t t1 t2 t3 _ _ _ _ => hK z t t1 ⟨by rw [(t2.same 18 rfl).1], by rw [(t2.same 19 rfl).1], by rw [(t2.same 22 rfl).1]⟩ t3)) (fun a0 a1 s K h1 h2 h3 hK => c_completeC hsL (d + 1) (by omega) a0 a1 0 s K h1 h2 h3 (by omega) (fun z t t1 t2 t3 _ _ _ _ => hK z t t1 ⟨by rw [(t2.same 18 rfl).1], by rw [(t2.same 19 rfl).1], by rw [(t2.same 22 rfl).1]⟩ t3))) a0 s K' hI ra hK'
  have r01 := hI.fld 0 1 (by decide) rfl
  by_cases hx : 0 ≤ a0 ∧ a0 ≤ s.1 0 1
  · refine sx_bothM (e := eX11_load) rfl (c_dload3 hsL (d + 3) (by omega) a0 s (fun z t => cx_I t ∧ cx_F [(0, 28)] s t ∧ (-2147483648 ≤ z ∧ z ≤ 2147483647) ∧ t.1 0 1 = 0 ∧ (z = 0 ∧ t.1 0 2 = 1 ∧ t.1 0 3 = -1 ∨ z ≠ 0 ∧ t.1 0 2 = 0)) hI ra (fun z t t1 t2 t3 t4 => ⟨t1, t2, t3, ?_⟩)) (hL (fun z t => px_an (s.2.1 1) a0 z ∧ (z = 0 → cx_I t ∧ ∃ l, px_TX (px_K (s.2.1 1) a0) l 0 ∧ px_ck (px_SN (s.2.1 1) a0) l [] [] 0 ∧ (t.1 19 2 = (px_c3 3 l : Int) ∧ t.1 22 2 = (px_c3 4 l : Int) ∧ t.1 18 10 = (px_c3 5 l : Int)) ∧ ∃ bb, (∀ k : Nat, (k : Int) < a0 → bb k = s.2.1 1 k) ∧ px_SN bb a0 = px_SN (s.2.1 1) a0 ∧ dz_E bb a0 (vl_kf l []) (vl_mf l []) t ∧ dl_pr (s.2.1 1) a0 (vl_eq l [] []) t ∧ t.1 11 6 ≤ 960 ∧ dw_ro (vl_mf l []) (vl_mf l []).length t)) (fun z t h => ?_)) (fun z1 t1 z2 t2 k1 k2 hz hh => ?_)
    · rcases t4 with ⟨q, _⟩ | ⟨_, _, q⟩
      · omega
      · exact q
    · rcases h with ⟨q, _⟩ | ⟨_, q⟩
      · omega
      · exact q
    · obtain ⟨c1, c2, c3, c4, c5⟩ := k1
      obtain ⟨k2, k3⟩ := k2
      have hr := px_an_r k2
      have ez : z1 = z2 := sx_vo_int hz c3 (by omega)
      rw [← ez] at k2 k3
      rcases c5 with ⟨c5, c6, c7⟩ | ⟨c5, c6⟩
      · obtain ⟨q0, l, q1, q2, ⟨q3, q4, q5⟩, bb, qb, q6, q7, q8, q9, q10⟩ := k3 c5
        have o0 := sx_mg_out (a := t1) (b := t2) (Or.inl (rfl : (0 : Nat) = 0))
        refine ⟨sx_mg t1 t2, sx_mg_hp hh, rfl, hK hx.1 hx.2 z1 _ (sx_mg_I c1 q0) (sx_mg_F c2) (by rw [o0.1]; exact c4) k2 (Or.inl ⟨c5, by rw [o0.1]; exact c6, by rw [o0.1]; exact c7, l, q1, ?_⟩)⟩
        exact dk_LD_c (fun p h1 h2 => sx_mg_in (by omega) h2) (fun _ => ⟨fun _ => ⟨dl_LD_mk ⟨hx.1, by omega⟩ q1 q2 q5 q7 q8 q9, q10⟩, bb, qb, q7⟩)
      · exact ⟨t1, rfl, rfl, hK hx.1 hx.2 z1 t1 c1 c2 c4 k2 (Or.inr ⟨c5, c6⟩)⟩
  · refine hL K (fun z t h => ?_)
    rcases h with ⟨q1, q2, q3⟩ | ⟨q, _⟩
    · rw [q2, q3]
      exact hN q1
    · exact absurd q hx
end
section
/-! ===== the names of the constants ===== -/
theorem px_s7_2 (c : Int) : px_s7 c ≠ 2 := by
  unfold px_s7
  (repeat' split) <;> decide
theorem px_nm8 {b : Nat → Int} {n k : Int} (h : px_kd b n k = 2) : px_en b n k - k ≤ 8 := by
  unfold px_kd at h
  unfold px_en
  by_cases c1 : n ≤ k
  · rw [if_pos c1] at h
    exact absurd h (by decide)
  · rw [if_neg c1] at h ⊢
    by_cases c2 : px_le (b k.toNat)
    · rw [if_pos c2] at h ⊢
      unfold px_wk at h
      by_cases c3 : 8 < px_ru px_wdb b n k - k
      · rw [if_pos c3] at h
        exact absurd h (by decide)
      · omega
    · rw [if_neg c2] at h
      exfalso
      unfold px_sg at h
      by_cases c3 : b k.toNat = 45
      · rw [if_pos c3] at h
        by_cases c4 : k + 1 < n ∧ b (k + 1).toNat = 62
        · rw [if_pos c4] at h
          exact absurd h (by decide)
        · rw [if_neg c4] at h
          exact absurd h (by decide)
      · rw [if_neg c3] at h
        exact px_s7_2 _ h
/-- each constant is declared by a NAME -/
theorem vl_kf_K {K : Nat → Int} : ∀ {l : List vl_I} {a : Int} {C : List (Int × qx_T)}, 0 ≤ a → vl_TX K l a → (∀ e ∈ C, 0 ≤ e.1 ∧ K e.1.toNat = 2) → ∀ e ∈ vl_kf l C, 0 ≤ e.1 ∧ K e.1.toNat = 2
  | [], _, _, _, _, h => h
  | q :: l, a, C, ha, ⟨c, hi, hx⟩, h => by
    show ∀ e ∈ (if q.1.1 = 3 then vl_kf l (C ++ [q.1.2]) else vl_kf l C), 0 ≤ e.1 ∧ K e.1.toNat = 2
    have key : 0 ≤ c ∧ (q.1.1 = 3 → 0 ≤ q.1.2.1 ∧ K q.1.2.1.toNat = 2) := by
      rcases hi with ⟨k1, k2, k3, x, e, h1, k4, k5, hq⟩ | ⟨k1, t, e, u, g, h1, k2, h2, k3, k4, hq⟩
      · have t1 := px_TY_le h1
        rw [hq]
        exact ⟨by omega, fun _ => ⟨by show 0 ≤ a + 1; omega, k2⟩⟩
      · refine ⟨?_, fun z => ?_⟩
        · have t1 := px_TM_le h1
          have t2 := px_TM_le h2
          omega
        · rw [hq] at z
          exact absurd z (show ¬ (5 : Int) = 3 by decide)
    by_cases z : q.1.1 = 3
    · rw [if_pos z]
      refine vl_kf_K key.1 hx (fun e he => ?_)
      rcases List.mem_append.mp he with he | he
      · exact h e he
      · rw [List.mem_singleton.mp he]
        exact key.2 z
    · rw [if_neg z]
      exact vl_kf_K key.1 hx h
theorem px_nam_cg {b c : Nat → Int} {n : Int} (h : ∀ k : Nat, (k : Int) < n → b k = c k) (hn : 0 ≤ n) (i : Nat) : px_en b n (px_ps b n i) - px_ps b n i = px_en c n (px_ps c n i) - px_ps c n i ∧ ∀ j : Int, 0 ≤ j → j < px_en b n (px_ps b n i) - px_ps b n i → b (px_ps b n i + j).toNat = c (px_ps c n i + j).toNat := by
  have e0 := px_ps_cg h i
  have e2 : px_en b n (px_ps b n i) = px_en c n (px_ps b n i) := (px_kd_cg h (px_ps_ge i)).2
  rw [← e0, e2]
  refine ⟨rfl, fun j j0 j1 => h _ ?_⟩
  have p0 := px_ps_ge (b := b) (n := n) i
  have p1 := px_ps_le (b := b) hn i
  have p2 := px_en_le (b := c) (n := n) p1
  omega
/-- what the desk has in memory of a constant's name -/
theorem wk_nm_of {b bb : Nat → Int} {n : Int} {l : List vl_I} {C M : List (Int × qx_T)} {u : sx_S} (hn : 0 ≤ n ∧ n ≤ 240) (hb : ∀ k : Nat, (k : Int) < n → bb k = b k) (hE : dz_E bb n C M u) (hK : ∀ e ∈ C, 0 ≤ e.1 ∧ px_K b n e.1.toNat = 2) {h : Int} (h0 : 0 ≤ h) (h1 : h < (C.length : Int)) : wk_Nm u h ∧ wk_nm u h = wy_nm b n C h := by
  obtain ⟨hTN, hDL, _⟩ := hE trivial
  obtain ⟨t1, t2, tk⟩ := hTN trivial
  obtain ⟨d1, d2⟩ := hDL trivial
  obtain ⟨e, e1, e2, e3, _⟩ := d2 h.toNat (by omega)
  obtain ⟨⟨m0, m1⟩, dt, _⟩ := tk trivial
  obtain ⟨s1, s2, s3⟩ := dt e.1.toNat (by omega)
  have hKe := (hK e (List.mem_of_getElem? e1)).2
  have eK : px_K bb n = px_K b n := px_K_cg hb
  have k2 : px_kd bb n (px_ps bb n e.1.toNat) = 2 := by
    have : px_K bb n e.1.toNat = 2 := by rw [eK]; exact hKe
    exact this
  have n8 := px_nm8 k2
  have p0 := px_ps_ge (b := bb) (n := n) e.1.toNat
  have p1 := px_ps_le (b := bb) hn.1 e.1.toNat
  have p2 := px_en_le (b := bb) (n := n) p1
  have p3 := px_en_ge (b := bb) (n := n) (k := px_ps bb n e.1.toNat)
  refine ⟨fun _ => ?_, ?_⟩
  · rw [e2, s2, s3, t2]
    exact ⟨⟨h0, by omega⟩, e3, p0, ⟨by omega, n8⟩, p2, hn.2⟩
  · unfold wk_nm wy_nm
    rw [e2, s2, s3, t1, e1]
    obtain ⟨g1, g2⟩ := px_nam_cg (b := bb) (c := b) hb hn.1 e.1.toNat
    show _ = (List.range (px_en b n (px_ps b n e.1.toNat) - px_ps b n e.1.toNat).toNat).map (fun j : Nat => b (px_ps b n e.1.toNat + (j : Int)).toNat)
    rw [← g1]
    refine List.map_congr_left (fun j hj => ?_)
    have := List.mem_range.mp hj
    exact g2 (j : Int) (by omega) (by omega)
end
