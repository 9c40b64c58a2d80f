section
/-! ===== the root of an unknown after solving: its type, its value ===== -/
theorem dx_root {s t : sx_S} {M : List (Int × qx_T)} {S : vx_S} {th : Int → rf_N} {k : Nat} {tc : Int → rf_T} {tm' : Int → Int → rf_T} (htm' : dx_tm (dv_S0 s (dl_ra M) (dl_AR s)) (dl_tm M) tm') (hI : cx_I s) (hM : ∀ q ∈ M, qx_at q.2 ≤ 5) (hk : k < M.length) (hM0 : s.1 22 2 = (M.length : Int)) (h6 : s.1 11 6 ≤ 960) (hle : vx_le (dv_S0 s (dl_ra M) (dl_AR s)) S) (hfr : dw_fr s t) (hS : vx_So S th) (h : dw_r1 M k s (s.2.1 25 k)) : ∃ (A : rf_N) (p : Int × qx_T), M[k]? = some p ∧ dv_at t S.2.2.2.2 A (t.2.1 25 k) ∧ vx_sd (dl_tw s) tc tm' S (fun _ => rf_b) 0 (qx_sh p.2) A [] ∧ (vx_lh A ≤ 67 ∧ vx_hh A ≤ 20 ∧ vx_hz A ≤ 1024) ∧ wd_v th S.2.2.2.2 (A, dv_lk [], 0) = vq_lm (rf_args (qx_sh p.2)).length (th (k : Int)) ∧ (∀ nC, wk_kc nC A) ∧ vx_ha A = 0 := by
  obtain ⟨W, p, e1, ⟨e2, e3⟩, ⟨e4, e5⟩, e6⟩ := h trivial
  obtain ⟨f1, f2⟩ := hfr trivial
  have f6 := hI.fld 11 6 (by decide) rfl
  have lt := dz_T_lt e3
  obtain ⟨nd, ar, ndp, _, _⟩ := e3 trivial
  have hA := dl_AR_ar nd ar
  have hc := e6 _ hA
  have p5 : qx_at p.2 ≤ 5 := hM p (List.mem_of_getElem? e1)
  have tr : dv_tr (s.2.1 16) (dl_AR s) W := vl_c3_tr hc (by omega) (by show 0 + qx_at p.2 ≤ 5; omega) ar hA List.nodup_nil (fun _ h => absurd h List.not_mem_nil)
  have hra : dl_ra M (k : Int) = ((rf_args (qx_sh p.2)).length : Int) := by
    unfold dl_ra
    rw [Int.toNat_natCast, e1]
    rfl
  have htm : ∀ i : Int, dl_tm M (k : Int) i = vl_ta p.2 i := fun i => by
    unfold dl_tm
    rw [Int.toNat_natCast, e1]
    rfl
  obtain ⟨ty, ok⟩ := vl_c3_ty (tv := dl_tw s) (tc := tc) (tm := dl_tm M) (fun v T h => dl_tw_eq h) (U := p.2) (Ts := []) hc htm rfl rfl (fun i y T h => by simp at h)
  have hin : vx_in (dv_S0 s (dl_ra M) (dl_AR s)) W := by
    refine ⟨fun m hm => ?_, fun j hj => lt j hj, vx_ok_cg (fun m hm => ?_) (fun _ _ => rfl) ok⟩
    · have := vl_c3_mt hc hm
      show 0 ≤ m ∧ m < s.1 22 2
      omega
    · rw [vl_c3_mt hc hm]
      exact hra
  have nf : dv_nf (s.1 11 6) (dl_AR s) S.2.2.2.2 s t := fun _ => ⟨f1, fun j hj => hle.2.2.2 j hj⟩
  have hat : dv_at s (dl_AR s) W (s.2.1 25 k) := by
    obtain ⟨j, kk, hh, F, eW⟩ := e5
    subst eW
    obtain ⟨⟨a1, a2⟩, ⟨a3, a4⟩, a5, _⟩ := nd
    exact ⟨j, kk, hh, F, rfl, ⟨a1, a2⟩, ⟨a3, a4⟩, a5, tr⟩
  have hc' := e6 S.2.2.2.2 (dw_ar_cg (fun j hj => hle.2.2.2 j (lt j hj)) hA)
  obtain ⟨_, _, lh, hh, _⟩ := vl_c3_ct (D := []) List.nodup_nil hc
  have h1 := vx_hz_idx W
  have h2 := dl_len f6.1 ndp lt
  have k1 : (k : Int) < S.1 := by
    have q : s.1 22 2 ≤ S.1 := hle.1.1
    omega
  refine ⟨W, p, e1, by rw [(f2.same 25 rfl).2]; exact dv_at_fr (Int.le_refl _) nf hat, fun _ => ⟨⟨vx_in_le hle hin, e5, (vx_ty_cg (fun m i hm => htm' m i (hin.1 m hm).2) (fun j hj => hle.2.2.2 j (lt j hj))).1 _ ty⟩, fun z hz => absurd hz (show ¬ (0 : Int) ≤ -1 by decide), ⟨Int.le_refl _, vx_ck_nil 0⟩, fun z hz => ?_, vx_nb_mono (fun z hz => absurd hz List.not_mem_nil) e4⟩, ⟨by omega, by omega, by omega⟩, ?_, fun _ => vl_c3_kc hc, vl_c3_ha hc⟩
  · exact absurd (vl_c3_fv hc' (fun _ h => absurd h List.not_mem_nil) z hz) List.not_mem_nil
  · obtain ⟨us, u1, u2, u3, u4⟩ := vq_c3 hc'
    show vx_val th S.2.2.2.2 W (dv_lk []) 0 = _
    rw [u4 th (dv_lk []) 0 (fun m => (hS.1 m).1), vx_re_id (hS.2.1 (k : Int) (by omega) k1) (fun v hv => dw_id_ix u2 _ v ((hS.1 (k : Int)).2 v hv)), u1]
end
section
/-! ===== the desk's writing: what holds of the pile, what stays ===== -/
/-- an entry at place i of the pile -/
def wk_c (S : vx_S) (A : rf_N) (i : Nat) : Prop := True → ∃ w, vx_wu S w A ∧ vx_ha A ≤ 84 ∧ i + vx_ha A ≤ 84 + 84 * vx_ls (vx_rw S) w
theorem wk_c_bd {S : vx_S} {A : rf_N} {i : Nat} {rk : Int → Nat} (hr : vx_rk S rk) (hW : vx_W S) (hC : vx_CT S) (h : wk_c S A i) : i + vx_ha A ≤ 504 := by
  obtain ⟨w, a1, _, a3⟩ := h trivial
  have c1 := vx_lc_bd hr hW hC a1
  omega
theorem wk_c_lam {S : vx_S} {j : Nat} {x : Int} {F : rf_N} {i : Nat} (h : wk_c S (rf_n j 0 x F .leaf) i) : wk_c S F i := fun _ => by
  obtain ⟨w, a1, a2, a3⟩ := h trivial
  rw [vx_ha_lam] at a2 a3
  exact ⟨w, vx_wu_sub (A := rf_n j 0 x F .leaf) (fun m hm => Or.inr (Or.inl ⟨vx_03, hm⟩)) a1, a2, a3⟩
theorem wk_c_el {S : vx_S} {j : Nat} {k h : Int} {F A : rf_N} {i i' : Nat} (h0 : k ≠ 0) (h3 : k ≠ 3) (hA : A ∈ vx_el F) (hi : i' ≤ i + rf_len F) (h1 : wk_c S (rf_n j k h F .leaf) i) : wk_c S A i' := fun _ => by
  obtain ⟨w, a1, a2, a3⟩ := h1 trivial
  have m1 := vx_ha_el hA
  rw [vx_ha_rig h0 h3] at a2 a3
  exact ⟨w, vx_wu_sub (A := rf_n j k h F .leaf) (fun m hm => Or.inr (Or.inl ⟨h3, vx_mt_el.mpr ⟨A, hA, hm⟩⟩)) a1, by omega, by omega⟩
theorem wk_c_in {S : vx_S} {j : Nat} {m : Int} {F X : rf_N} {e : Int → Int} {i : Nat} (hX : vx_ha X ≤ 84) (hs : vx_sg X) (hb : S.2.2.2.1 m = some (X, e)) (h : wk_c S (rf_n j 3 m F .leaf) i) : wk_c S X i := fun _ => by
  obtain ⟨w, a1, _, a3⟩ := h trivial
  rw [vx_ha_call] at a3
  have hrw : vx_ha X ≤ 84 * vx_rw S m := by
    obtain ⟨j', k', h', G, rfl⟩ := hs
    by_cases q : k' = 3
    · subst q
      rw [vx_ha_call]
      exact Nat.zero_le _
    · have : vx_rw S m = 1 := by
        unfold vx_rw
        rw [hb]
        exact if_neg q
      omega
  have e1 : vx_ls (vx_rw S) (m :: w) = vx_rw S m + vx_ls (vx_rw S) w := rfl
  exact ⟨m :: w, vx_wu_in (A := rf_n j 3 m F .leaf) hb (Or.inl ⟨rfl, rfl⟩) a1, hX, by rw [e1]; omega⟩
theorem vx_ty_el1 {tv tc : Int → rf_T} {tm : Int → Int → rf_T} {AR : Nat → List Int} {A : rf_N} : ∀ {F : rf_N} {u : rf_T}, (vx_ty tv tc tm AR F).2 u → A ∈ vx_el F → ∃ t, (vx_ty tv tc tm AR A).1 t ∧ rf_at t + 1 ≤ rf_at u
  | .leaf, _, _, h => absurd h List.not_mem_nil
  | .inner j q u' F X, u, ⟨A', B, e, h1, h2⟩, h => by
    have e2 : rf_at u = rf_at A' + rf_at B := by
      rw [e]
      rfl
    rcases List.mem_cons.mp h with rfl | h
    · have := rf_at_pos B
      exact ⟨A', h1, by omega⟩
    · obtain ⟨t, t1, t2⟩ := vx_ty_el1 h2 h
      exact ⟨t, t1, by omega⟩
theorem wd_el_oc {th : Int → rf_N} {AR : Nat → List Int} (hg : ∀ m, vx_on (th m)) {e : Int → Int} {L x : Int} {A : rf_N} : ∀ {F : rf_N}, A ∈ vx_el F → wz_oc x (vx_val th AR A e L) → wz_oc x (vx_val th AR F e L)
  | .leaf, h, _ => absurd h List.not_mem_nil
  | .inner j q u F X, h, hx => by
    rw [vx_val_1 hg j q u F X e L, wz_sb_oc (vx_val_one hg j q u F e L)]
    rcases List.mem_cons.mp h with rfl | h
    · exact Or.inl hx
    · exact Or.inr (wd_el_oc hg h hx)
/-- a term on the pile -/
def wk_T (tv tc : Int → rf_T) (tm : Int → Int → rf_T) (S : vx_S) (th : Int → rf_N) (nC : Int) (bs : Nat) (a : List (Int × List Int)) (i : Nat) (A : rf_N) (c : List (Int × Int)) (L mk : Int) : Prop := True → (∃ lt t, vx_sd tv tc tm S lt L t A c ∧ wk_tb t ∧ ∀ l, 0 ≤ l → l < L → rf_at (lt l) ≤ 5) ∧ vx_c1 S bs A mk L 0 ∧ wk_c S A i ∧ wk_kc nC A ∧ ∀ x, wz_oc x (vx_val th S.2.2.2.2 A (dv_lk c) L) → x ∈ a.map Prod.fst
section
variable {tv tc : Int → rf_T} {tm : Int → Int → rf_T} {S : vx_S} {th : Int → rf_N} {nC : Int} {bs : Nat} {a : List (Int × List Int)} {i : Nat} {c : List (Int × Int)} {L mk : Int}
theorem wk_T_lam {j : Nat} {x : Int} {F : rf_N} (hF : vx_sg F) (h : wk_T tv tc tm S th nC bs a i (rf_n j 0 x F .leaf) c L mk) : wk_T tv tc tm S th nC bs a i F ((x, L) :: c) (L + 1) (mk + 1) := fun _ => by
  obtain ⟨⟨lt, t, s1, s2, s3⟩, c1, c2, c3, c4⟩ := h trivial
  obtain ⟨B, e, s1'⟩ := vx_sd_lam hF s1
  rw [e] at s2
  obtain ⟨s4, s5⟩ := s2
  refine ⟨⟨_, B, s1', s5, fun l l0 l1 => ?_⟩, vx_c1_lam c1, wk_c_lam c2, c3.2.1 vx_03, fun z hz => c4 z ?_⟩
  · show rf_at (if l = L then tv x else lt l) ≤ 5
    by_cases q : l = L
    · rw [if_pos q]
      exact s4
    · rw [if_neg q]
      exact s3 l l0 (by omega)
  · have ev : vx_val th S.2.2.2.2 (rf_n j 0 x F .leaf) (dv_lk c) L = .inner 0 (0, 0) () (vx_val th S.2.2.2.2 F (dv_lk ((x, L) :: c)) (L + 1)) .leaf := by
      rw [dv_lk_up, vx_val_in, if_pos rfl]
      rfl
    rw [ev, wz_oc_in, if_neg (by decide)]
    exact Or.inl hz
/-- the type that a head has is small -/
theorem wk_hd5 {j : Nat} {k h : Int} {F : rf_N} {lt : Int → rf_T} {t : rf_T} (hk : k = 1 ∨ k = 2) (htc : ∀ h, rf_at (tc h) ≤ 5) (s1 : vx_sd tv tc tm S lt L t (rf_n j k h F .leaf) c) (s3 : ∀ l, 0 ≤ l → l < L → rf_at (lt l) ≤ 5) : ∃ u, (vx_ty tv tc tm S.2.2.2.2 F).2 u ∧ rf_at u ≤ 5 := by
  obtain ⟨⟨_, _, ty⟩, _, ⟨L0, ck⟩, _⟩ := id (s1 trivial)
  rcases ty with ⟨q, _⟩ | ⟨_, _, q⟩ | ⟨q2, _, q⟩ | ⟨q, _⟩
  · have q' : k = 0 := q
    omega
  · exact ⟨_, q, htc h⟩
  · have q2' : k = 2 := q2
    subst q2'
    obtain ⟨v1, v2⟩ := vx_sd_var s1
    refine ⟨_, q, ?_⟩
    show rf_at (tv h) ≤ 5
    rw [v2]
    exact s3 _ v1 ((vx_ck_lk L0 ck).1 h).2
  · have q' : k = 3 := q
    omega
theorem wk_T_el {j : Nat} {k h : Int} {F A : rf_N} {i' : Nat} (hg : ∀ m, vx_on (th m)) (hk : k = 1 ∨ k = 2) (hh : 0 ≤ h) (htc : ∀ h, rf_at (tc h) ≤ 5) (hA : A ∈ vx_el F) (hi : i' ≤ i + rf_len F) (hT : wk_T tv tc tm S th nC bs a i (rf_n j k h F .leaf) c L mk) : wk_T tv tc tm S th nC bs a i' A c L mk := fun _ => by
  obtain ⟨⟨lt, t, s1, s2, s3⟩, c1, c2, c3, c4⟩ := hT trivial
  have h0 : k ≠ 0 := by omega
  have h3 : k ≠ 3 := by omega
  obtain ⟨u, u1, u2⟩ := wk_hd5 hk htc s1 s3
  obtain ⟨t', t1, t2⟩ := vx_ty_el1 u1 hA
  refine ⟨⟨lt, t', vx_sd_el h0 h3 hA t1 s1, wk_tb_5 (by omega), s3⟩, vx_c1_el h0 h3 hA (Nat.zero_le _) c1, wk_c_el h0 h3 hA hi c2, wk_kc_el hA (c3.2.1 h3), fun z hz => c4 z ?_⟩
  have ev : vx_val th S.2.2.2.2 (rf_n j k h F .leaf) (dv_lk c) L = .inner 0 (k, if k = 2 then dv_lk c h else h) () (vx_val th S.2.2.2.2 F (dv_lk c) L) .leaf := by
    rw [vx_val_in, if_neg h0, if_neg h3]
    rfl
  have hn : ¬ (k = 1 ∧ (if k = 2 then dv_lk c h else h) < 0) := fun cc => by
    obtain ⟨e1, e2⟩ := cc
    rw [if_neg (by omega)] at e2
    omega
  rw [ev, wz_oc_in, if_neg hn]
  exact Or.inl (wd_el_oc hg hA hz)
end
/-- all entries of the pile -/
def wk_en (tv tc : Int → rf_T) (tm : Int → Int → rf_T) (S : vx_S) (th : Int → rf_N) (nC : Int) (bs : Nat) (a : List (Int × List Int)) : List wk_I → Prop
  | [] => True
  | p :: r => (p.2 ≠ 2 → wk_T tv tc tm S th nC bs a r.length p.1.1.1 p.1.1.2 p.1.2.1 p.1.2.2) ∧ wk_en tv tc tm S th nC bs a r
theorem wk_en_wz {tv tc : Int → rf_T} {tm : Int → Int → rf_T} {S : vx_S} {th : Int → rf_N} {nC : Int} {bs : Nat} {a : List (Int × List Int)} {c : List (Int × Int)} {L mk : Int} {ws : List wk_I} (hks : wk_en tv tc tm S th nC bs a ws) {n : Nat} : ∀ {l : List rf_N}, l.length ≤ n → (∀ A ∈ l, ∀ i', i' + 1 ≤ ws.length + n → wk_T tv tc tm S th nC bs a i' A c L mk) → wk_en tv tc tm S th nC bs a (l.map (fun A => (((A, c), L, mk), 1)) ++ ws)
  | [], _, _ => hks
  | A :: l, hl, h => by
    rw [List.length_cons] at hl
    refine ⟨fun _ => h A List.mem_cons_self _ ?_, wk_en_wz hks (by omega) (fun B hB => h B (List.mem_cons_of_mem _ hB))⟩
    rw [show ∀ (x y : List wk_I), x.append y = x ++ y from fun _ _ => rfl, List.length_append, List.length_map]
    omega
/-- types of the open unknowns' ARGs -/
def wk_ht (tm : Int → Int → rf_T) (h : Int) : List rf_T := (List.range 4).map (fun i : Nat => tm (-1 - h) (i : Int))
theorem wk_ht_at {tm : Int → Int → rf_T} {m : Int} {k : Nat} (hk : k < 4) : (wk_ht tm (-1 - m)).getD k .leaf = tm m (k : Int) := by
  unfold wk_ht
  rw [List.getD_eq_getElem?_getD, List.getElem?_map, List.getElem?_range hk]
  show tm (-1 - (-1 - m)) (k : Int) = _
  rw [show -1 - (-1 - m) = m by omega]
def wk_E (nm : Int → List Int) (ht : Int → List rf_T) : we_E (List Int) := ((wb_E nm).1, (wb_E nm).2.1, ht, fun _ => .leaf, fun _ => [], fun _ => 0)
theorem wk_E_b (nm : Int → List Int) (ht : Int → List rf_T) (l : List Int) (a : List (Int × List Int)) (o : List Int) : we_b (wk_E nm ht) l (a, o) = (a, o ++ l) := wk_bs l (a, o)
/-- what holds while it writes -/
def wk_X (tv tc : Int → rf_T) (n0 : Int) (Qs : (Int → rf_N) → Prop) (th : Int → rf_N) (rk : Int → Nat) (nm : Int → List Int) (u : sx_S) (S : vx_S) (PR : Int → List (Int × Int)) (tm : Int → Int → rf_T) (a : List (Int × List Int)) : Prop := True → dv_G tv tc n0 Qs u S PR tm [] [] ∧ wd_N u S a ∧ (vx_So S th ∧ (∀ m, S.2.2.2.1 m = none → th m = vx_gn S.2.2.1 m) ∧ vx_rk S rk) ∧ (∀ m B e, S.2.2.2.1 m = some (B, e) → vx_ha B ≤ 84 ∧ wk_kc (u.1 19 2) B) ∧ (∀ h, 0 ≤ h → h < u.1 19 2 → wk_Nm u h ∧ nm h = wk_nm u h) ∧ (∀ v, rf_at (tv v) ≤ 5 → (0 ≤ v ∧ v < u.1 11 8) ∧ wk_ty u (tv v) (u.2.1 17 v.toNat)) ∧ ∀ h, rf_at (tc h) ≤ 5
/-- what writing leaves -/
def wk_fr (s u : sx_S) : Prop := True → cx_F [(29, 33), (55, 62), (65, 65)] s u ∧ (∀ k, k ≠ 7 → k ≠ 8 → u.1 33 k = s.1 33 k) ∧ ∀ k, k ≠ 10 → u.1 55 k = s.1 55 k
theorem wk_fr_refl (s : sx_S) : wk_fr s s := fun _ => ⟨cx_F_refl _ _, fun _ _ _ => rfl, fun _ _ => rfl⟩
theorem wk_fr_t {s u t : sx_S} (h1 : wk_fr s u) (h2 : wk_fr u t) : wk_fr s t := fun _ => by
  obtain ⟨a1, a2, a3⟩ := h1 trivial
  obtain ⟨b1, b2, b3⟩ := h2 trivial
  exact ⟨cx_F_step b1 rfl a1, fun k k7 k8 => (b2 k k7 k8).trans (a2 k k7 k8), fun k k10 => (b3 k k10).trans (a3 k k10)⟩
theorem wk_fr_F {s u : sx_S} {W : List (Nat × Nat)} (h : cx_F W s u) (hw : cx_le W [(29, 33), (55, 62), (65, 65)] = true ∧ cx_outb W 33 = true ∧ cx_outb W 55 = true) : wk_fr s u := fun _ => ⟨cx_F_step h hw.1 (cx_F_refl _ _), fun k _ _ => congrFun (h.same 33 hw.2.1).1 k, fun k _ => congrFun (h.same 55 hw.2.2).1 k⟩
theorem wk_fr_p {s t : sx_S} {l : List Int} (h : wk_PT s t l) : wk_fr s t := fun _ => ⟨cx_F_step h.2.1 rfl (cx_F_refl _ _), fun k _ _ => congrFun (h.2.1.same 33 rfl).1 k, h.2.2.1⟩
theorem wk_fr_sl {s t : sx_S} (h : cx_F [(29, 33)] s t) (h33 : ∀ k, k ≠ 7 → k ≠ 8 → t.1 33 k = s.1 33 k) : wk_fr s t := fun _ => ⟨cx_F_step h rfl (cx_F_refl _ _), h33, fun k _ => congrFun (h.same 55 rfl).1 k⟩
/-- all of writing: the root that is written changes too -/
def wk_fw (s u : sx_S) : Prop := True → cx_F [(29, 33), (55, 62), (65, 65)] s u ∧ (∀ k, k ≠ 7 → k ≠ 8 → u.1 33 k = s.1 33 k) ∧ ∀ k, k ≠ 10 → k ≠ 11 → u.1 55 k = s.1 55 k
theorem wk_fw_of {s u : sx_S} (h : wk_fr s u) : wk_fw s u := fun _ => by
  obtain ⟨a1, a2, a3⟩ := h trivial
  exact ⟨a1, a2, fun k k10 _ => a3 k k10⟩
theorem wk_fw_t {s u t : sx_S} (h1 : wk_fw s u) (h2 : wk_fw u t) : wk_fw s t := fun _ => by
  obtain ⟨a1, a2, a3⟩ := h1 trivial
  obtain ⟨b1, b2, b3⟩ := h2 trivial
  exact ⟨cx_F_step b1 rfl a1, fun k k7 k8 => (b2 k k7 k8).trans (a2 k k7 k8), fun k k10 k11 => (b3 k k10 k11).trans (a3 k k10 k11)⟩
theorem wk_Dp_c {s u : sx_S} {o : List Int} (h1 : u.1 55 10 = s.1 55 10) (h2 : u.2.1 65 = s.2.1 65) (h : wb_Dp s o) : wb_Dp u o := by
  unfold wb_Dp at h ⊢
  rw [h1, h2]
  exact h
theorem wk_X_fw {tv tc : Int → rf_T} {n0 : Int} {Qs : (Int → rf_N) → Prop} {th : Int → rf_N} {rk : Int → Nat} {nm : Int → List Int} {s u : sx_S} {S : vx_S} {PR : Int → List (Int × Int)} {tm : Int → Int → rf_T} {a : List (Int × List Int)} (h : wk_X tv tc n0 Qs th rk nm s S PR tm a) (hI : cx_I u) (hf : wk_fw s u) : wk_X tv tc n0 Qs th rk nm u S PR tm a := fun _ => by
  obtain ⟨hG, hN, hS, hB, hnm, hty, htc⟩ := h trivial
  obtain ⟨g1, g2, g3, g4, ⟨_, g6⟩, g7, g8⟩ := hG trivial
  obtain ⟨hF, h33, h55⟩ := hf trivial
  have nf : dv_nf (s.1 11 6) S.2.2.2.2 S.2.2.2.2 s u := dv_nf_F _ hF (by decide)
  have e19 : u.1 19 = s.1 19 := (hF.same 19 rfl).1
  have e20 : u.2.1 20 = s.2.1 20 := (hF.same 20 rfl).2
  have e2 : u.1 2 = s.1 2 := (hF.same 2 rfl).1
  have e3 : u.2.1 3 = s.2.1 3 := (hF.same 3 rfl).2
  have e5 : u.2.1 5 = s.2.1 5 := (hF.same 5 rfl).2
  have e6 : u.2.1 6 = s.2.1 6 := (hF.same 6 rfl).2
  have e11 : u.1 11 = s.1 11 := (hF.same 11 rfl).1
  have e17 : u.2.1 17 = s.2.1 17 := (hF.same 17 rfl).2
  refine ⟨fun _ => ⟨hI, dv_M_fr (Int.le_refl _) (by rw [e11]) nf (h33 6 (by decide) (by decide)) (hF.same 34 rfl).2 (hF.same 35 rfl).2 (hF.same 36 rfl).2 (hF.same 37 rfl).2 g2, g3, g4, ⟨trivial, by rw [(hF.same 39 rfl).1]; exact g6⟩, g7, g8⟩, wd_N_same (h55 8 (by decide) (by decide)) (hF.same 63 rfl).2 (hF.same 64 rfl).2 hN, hS, by rw [e19]; exact hB, fun x x0 x1 => ?_, fun v hv => ?_, htc⟩
  · obtain ⟨n1, n2⟩ := hnm x x0 (by rw [e19] at x1; exact x1)
    refine ⟨fun _ => ?_, ?_⟩
    · have n1' := n1 trivial
      rw [e19, e20, e2, e5, e6]
      exact n1'
    · unfold wk_nm at n2 ⊢
      rw [e20, e3, e5, e6]
      exact n2
  · obtain ⟨v1, v2⟩ := hty v hv
    rw [e11, e17]
    exact ⟨v1, wk_ty_c (by rw [(hF.same 8 rfl).1]) (hF.same 9 rfl).2 (hF.same 10 rfl).2 v2⟩
theorem wk_X_fr {tv tc : Int → rf_T} {n0 : Int} {Qs : (Int → rf_N) → Prop} {th : Int → rf_N} {rk : Int → Nat} {nm : Int → List Int} {s u : sx_S} {S : vx_S} {PR : Int → List (Int × Int)} {tm : Int → Int → rf_T} {a : List (Int × List Int)} (h : wk_X tv tc n0 Qs th rk nm s S PR tm a) (hI : cx_I u) (hf : wk_fr s u) : wk_X tv tc n0 Qs th rk nm u S PR tm a := wk_X_fw h hI (wk_fw_of hf)
/-- whether an ARG is put in brackets -/
theorem wk_bk {S : vx_S} {th : Int → rf_N} (hg : ∀ m, vx_on (th m)) (hop : ∀ m, S.2.2.2.1 m = none → th m = vx_gn S.2.2.1 m) {j : Nat} {k h : Int} {F : rf_N} {e : Int → Int} {L : Int} (h3 : k = 3 → S.2.2.2.1 h = none ∧ S.2.2.1 h = (rf_len F : Int)) : we_bk (vx_val th S.2.2.2.2 (rf_n j k h F .leaf) e L) ↔ k = 0 ∨ rf_len F ≠ 0 := by
  rw [we_bk_val hg]
  by_cases c : k = 3
  · obtain ⟨a1, a2⟩ := h3 c
    have lv : rf_len (vx_vs (rf_len F) 0) = rf_len F := by
      have := (wz_vs (rf_len F) 0).2.1
      rw [dz_hs_len] at this
      exact this
    have eb : we_bk (th h) ↔ rf_len F ≠ 0 := by
      rw [hop h a1]
      unfold vx_gn
      rw [a2, Int.toNat_natCast]
      show (1 : Int) = 0 ∨ rf_len (vx_vs (rf_len F) 0) ≠ 0 ↔ _
      rw [lv]
      exact ⟨fun q => q.elim (fun q => absurd q (by decide)) id, Or.inr⟩
    show k = 0 ∨ (k = 3 ∧ we_bk (th h)) ∨ (k ≠ 3 ∧ rf_len F ≠ 0) ↔ _
    rw [eb]
    exact ⟨fun q => q.elim Or.inl (fun q => q.elim (fun q => Or.inr q.2) (fun q => Or.inr q.2)), fun q => q.elim Or.inl (fun q => Or.inr (Or.inl ⟨c, q⟩))⟩
  · show k = 0 ∨ (k = 3 ∧ we_bk (th h)) ∨ (k ≠ 3 ∧ rf_len F ≠ 0) ↔ _
    exact ⟨fun q => q.elim Or.inl (fun q => q.elim (fun q => absurd q.1 c) (fun q => Or.inr q.2)), fun q => q.elim Or.inl (fun q => Or.inr (Or.inr ⟨c, q⟩))⟩
end
section
/-! ===== the desk: a step of writing ===== -/
def wk_J (tv tc : Int → rf_T) (tm : Int → Int → rf_T) (S : vx_S) (th : Int → rf_N) (nC : Int) (bs : Nat) (a : List (Int × List Int)) (nm : Int → List Int) (Z : we_A (List Int)) (i lo : Nat) (u : sx_S) (A : rf_N) (c : List (Int × Int)) (L z cc : Int) (ws1 : List wk_I) (o1 : List Int) : Prop := True → (dv_at u S.2.2.2.2 A z ∧ dv_c u c (u.1 29 3) cc) ∧ wk_T tv tc tm S th nC bs a i A c L (u.1 29 3) ∧ (wk_ws u S.2.2.2.2 (u.1 29 3) ws1 ∧ u.1 56 6 = (ws1.length : Int)) ∧ (ws1.length ≤ i + 1 ∧ wk_en tv tc tm S th nC bs a ws1 ∧ ∀ p ∈ ws1, p.2 = 1 ∨ p.2 = 2) ∧ (wb_Dp u o1 ∧ lo ≤ o1.length) ∧ wk_al (wk_E nm (wk_ht tm)) th S.2.2.2.2 ws1 ((we_W (wk_E nm (wk_ht tm)) (wd_v th S.2.2.2.2 (A, dv_lk c, L))).1 L (a, o1)) = Z
theorem wk_bw_len (L : Int) : (92 :: 120 :: (wb_dg L ++ [46]) : List Int).length ≤ 13 := by
  have := wb_dg_len L
  rw [List.length_cons, List.length_cons, List.length_append, List.length_singleton]
  omega
set_option maxRecDepth 4000 in
theorem c_k_ws {tv tc : Int → rf_T} {n0 : Int} {Qs : (Int → rf_N) → Prop} {th : Int → rf_N} {rk : Int → Nat} {nm : Int → List Int} {bs : Nat} {Z : we_A (List Int)} {sL : Nat} {sx : Nat → Int32} (hsL : sL ≤ 3072) (d : Nat) (hd : 20 ≤ d) : ∀ (S : vx_S) (PR : Int → List (Int × Int)) (tm : Int → Int → rf_T) (a : List (Int × List Int)) (k : wk_I) (ws : List wk_I) (o : List Int) (s : sx_S) (K : Int → sx_S → Prop), wk_X tv tc n0 Qs th rk nm s S PR tm a → (wk_ws s S.2.2.2.2 (s.1 29 3) (k :: ws) ∧ s.1 56 6 = ((k :: ws).length : Int)) → wk_en tv tc tm S th (s.1 19 2) bs a (k :: ws) → ((k.2 = 0 ∨ k.2 = 1 ∨ k.2 = 2) ∧ ∀ p ∈ ws, p.2 = 1 ∨ p.2 = 2) → wb_Dp s o → o.length ≤ 4000 → bs ≤ 385 → wk_al (wk_E nm (wk_ht tm)) th S.2.2.2.2 (k :: ws) (a, o) = Z → (∀ u o' ws', cx_I u → wk_fr s u → (wk_ws u S.2.2.2.2 (u.1 29 3) ws' ∧ u.1 56 6 = (ws'.length : Int)) → wk_en tv tc tm S th (s.1 19 2) bs a ws' → (∀ p ∈ ws', p.2 = 1 ∨ p.2 = 2) → wb_Dp u o' → o.length + (if k.2 = 0 then 0 else 1) ≤ o'.length → wk_al (wk_E nm (wk_ht tm)) th S.2.2.2.2 ws' (a, o') = Z → K 0 u) → sx_C sL sx d 128 [.inr (.inl 55)] s K := by
  intro S PR tm a k ws o s K hX hw hen hkk hDp ho hbs hZ hK
  obtain ⟨hG, hN, ⟨hS, hop, hrk⟩, hB, hnm, hty, htc⟩ := hX trivial
  obtain ⟨g1, g2, g3, g4, ⟨g5, g6⟩, g7, g8⟩ := hG trivial
  obtain ⟨⟨W, B1, Sc, _⟩, TS⟩ := g3 trivial
  have hg : ∀ m, vx_on (th m) := fun m => (hS.1 m).1
  obtain ⟨w1, w8⟩ := hw
  obtain ⟨k1, k4⟩ := hen
  obtain ⟨hk3, h0⟩ := hkk
  have w1' := w1
  obtain ⟨⟨v1, v2⟩, ⟨v3, v4⟩, v5, v6⟩ := w1'
  have w8' := w8
  rw [List.length_cons] at w8'
  have en : (s.1 56 6 - 1).toNat = ws.length := by omega
  have h29 := g1.fld 29 3 (by decide) rfl
  have hd55 := hDp.1
  have hlo : ∃ lo, lo = o.length + (if k.2 = 0 then 0 else 1) := ⟨_, rfl⟩
  obtain ⟨lo, hlo⟩ := hlo
  have lo1 : lo ≤ o.length + 1 := by
    rw [hlo]
    by_cases c : k.2 = 0
    · rw [if_pos c]
      omega
    · rw [if_neg c]
      omega
  rw [← hlo] at hK
  have hnC : ∃ nC, nC = s.1 19 2 := ⟨_, rfl⟩
  obtain ⟨nC, hnC⟩ := hnC
  rw [← hnC] at k1 k4 hK
  have hcb : ∀ {A : rf_N} {i : Nat}, wk_c S A i → i + vx_ha A ≤ 504 := fun h => wk_c_bd hrk W g4 h
  have frpo : ∀ u, wk_po s u → wk_fr s u := fun u hp => wk_fr_F (hp trivial).2.1 (by decide)
  have hstep : ∀ (L : Int) (i : Nat) (j : Nat) (m : Int) (F X : rf_N) (e : Int → Int) (v v' : Int), (vx_c1 S bs (rf_n j 3 m F .leaf) v L 0 ∧ wk_c S (rf_n j 3 m F .leaf) i ∧ wk_kc nC (rf_n j 3 m F .leaf)) → vx_sg X → S.2.2.2.1 m = some (X, e) → v' ≤ v + (vx_aa S m : Int) → (vx_c1 S bs X v' L 0 ∧ wk_c S X i ∧ wk_kc nC X) := fun L i j m F X e v v' h1 h2 h3 h4 => ⟨vx_c1_in g4 h2 h3 h4 h1.1, wk_c_in (hB m X e h3).1 h2 h3 h1.2.1, by rw [hnC]; exact (hB m X e h3).2⟩
  have hbd : ∀ (L : Int) (i : Nat) (A : rf_N) (v : Int), (vx_c1 S bs A v L 0 ∧ wk_c S A i ∧ wk_kc nC A) → v ≤ 904 := fun L i A v h1 => by
    have := (vx_c1_bd hrk W g4 hbs h1.1).1
    omega
  obtain ⟨d, rfl⟩ : ∃ e, d = e + 2 := ⟨d - 2, by omega⟩
  refine sx_methL (wr := true) (n := 400) (n' := 400) (stop := [(39, [0]), (74, [0, 1, 2, 3]), (107, [0, 1, 2, 3, 4]), (167, [0, 1, 2, 3]), (212, [0, 1, 2, 3]), (230, [0, 1, 2, 3, 4])]) (fun nn pc ls u => (pc = 39 ∧ ls = [(0, .inr (.inl 55))] ∧ wk_po s u ∧ k.2 ≠ 2 ∧ nn = 900) ∨ (pc = 74 ∧ ∃ z cc : Int, ls = [(0, .inr (.inl 55)), (1, .inl z), (2, .inl cc), (3, .inl k.1.2.1)] ∧ wk_po s u ∧ k.2 = 1 ∧ z = u.2.1 57 ws.length ∧ cc = u.2.1 58 ws.length ∧ nn = 800) ∨ (pc = 107 ∧ ∃ (z cc L : Int) (x4 : Nat) (A : rf_N) (c : List (Int × Int)) (ws1 : List wk_I) (o1 : List Int), ls = [(0, .inr (.inl 55)), (1, .inl z), (2, .inl cc), (3, .inl L), (4, .inl (x4 : Int))] ∧ wk_J tv tc tm S th nC bs a nm Z ws.length lo u A c L z cc ws1 o1 ∧ cx_I u ∧ wk_fr s u ∧ x4 + vx_lh A ≤ 67 ∧ o1.length ≤ 4010 + 14 * x4 ∧ nn = 200 + vx_lh A) ∨ (pc = 167 ∧ ∃ (z cc L : Int) (A : rf_N) (c : List (Int × Int)) (ws1 : List wk_I) (o1 : List Int), ls = [(0, .inr (.inl 55)), (1, .inl z), (2, .inl cc), (3, .inl L)] ∧ wk_J tv tc tm S th nC bs a nm Z ws.length lo u A c L z cc ws1 o1 ∧ cx_I u ∧ wk_fr s u ∧ ¬ vx_isl A ∧ o1.length ≤ 5000 ∧ nn = 150) ∨ (pc = 212 ∧ ∃ (z cc L : Int) (j : Nat) (kk h : Int) (F : rf_N) (c : List (Int × Int)) (ws1 : List wk_I) (o1 : List Int), ls = [(0, .inr (.inl 55)), (1, .inl z), (2, .inl cc), (3, .inl L)] ∧ wk_J tv tc tm S th nC bs a nm Z ws.length lo u (rf_n j kk h F .leaf) c L z cc ws1 o1 ∧ cx_I u ∧ wk_fr s u ∧ (kk = 1 ∨ kk = 2) ∧ o1.length ≤ 5000 ∧ nn = 100) ∨ (pc = 230 ∧ ∃ (z cc L x4 : Int) (j : Nat) (kk h : Int) (F : rf_N) (c : List (Int × Int)) (ws1 : List wk_I) (o1 : List Int) (v : sx_S), ls = [(0, .inr (.inl 55)), (1, .inl z), (2, .inl cc), (3, .inl L), (4, .inl x4)] ∧ (dv_at v S.2.2.2.2 (rf_n j kk h F .leaf) z ∧ dv_c v c (v.1 29 3) cc) ∧ wk_T tv tc tm S th nC bs a ws.length (rf_n j kk h F .leaf) c L (v.1 29 3) ∧ (ws1.length ≤ ws.length + 1 ∧ wk_en tv tc tm S th nC bs a ws1 ∧ ∀ p ∈ ws1, p.2 = 1 ∨ p.2 = 2) ∧ (wb_Dp v o1 ∧ lo ≤ o1.length) ∧ wk_al (wk_E nm (wk_ht tm)) th S.2.2.2.2 ws1 ((we_W (wk_E nm (wk_ht tm)) (vx_val th S.2.2.2.2 F (dv_lk c) L)).2 L (a, o1)) = Z ∧ cx_I v ∧ wk_fr s v ∧ (kk = 1 ∨ kk = 2) ∧ (-1 ≤ x4 ∧ x4 < (rf_len F : Int)) ∧ cx_I u ∧ cx_F [(56, 62)] v u ∧ wk_ws u S.2.2.2.2 (u.1 29 3) ((wk_wz F c L (v.1 29 3)).drop (x4 + 1).toNat ++ ws1) ∧ u.1 56 6 + x4 + 1 = (ws1.length : Int) + (rf_len F : Int) ∧ nn = (x4 + 1).toNat)) hsL (e := eX10_writeStep) rfl ?_ ?_
  · refine w_k_ws (P1 := fun u t => wk_PT u t [41]) (c_dv_pop56 hsL (d + 1) (by omega)) (c_dv_pmark56 hsL (d + 1) (by omega)) (c_dv_rel hsL (d + 1) (by omega)) (c_dv_pother56 hsL (d + 1) (by omega)) g1 (by omega) (by rw [en, v4]; omega) (fun u hp q K' hK' => c_k_put hsL (d + 1) (by omega) 41 u K' (hp trivial).1 (by omega) (by rw [((hp trivial).2.1.same 55 rfl).1]; omega) hK') (fun u t hp q ht => ?_) (fun u hp q => ⟨900, Or.inl ⟨rfl, rfl, hp, by rw [en, v3] at q; exact q, rfl⟩⟩)
    rw [en, v3] at q
    obtain ⟨p1, p2, p3, _⟩ := wk_ws_po hp w8 w1
    obtain ⟨f1, f2, f3, f4, f5⟩ := id ht
    have e29 : t.1 29 = u.1 29 := (f2.same 29 rfl).1
    have e65 : u.2.1 65 = s.2.1 65 := ((hp trivial).2.1.same 65 rfl).2
    have hby : wk_by (wk_E nm (wk_ht tm)) th S.2.2.2.2 k (a, o) = (a, o ++ [41]) := by
      unfold wk_by
      rw [if_pos q]
      exact wk_E_b nm (wk_ht tm) [41] a o
    have hZ' : wk_al (wk_E nm (wk_ht tm)) th S.2.2.2.2 ws (wk_by (wk_E nm (wk_ht tm)) th S.2.2.2.2 k (a, o)) = Z := hZ
    rw [hby] at hZ'
    refine hK t (o ++ [41]) ws f1 (wk_fr_t (frpo u hp) (wk_fr_p ht)) ⟨by rw [e29]; exact wk_ws_p f2 p1, by rw [(f2.same 56 rfl).1]; exact p2⟩ k4 h0 (f5 o (wk_Dp_c (by rw [((hp trivial).2.1.same 55 rfl).1]) e65 hDp)) ?_ hZ'
    rw [List.length_append, List.length_singleton]
    exact lo1
  · rintro nn pc ls u (⟨rfl, rfl, hp, kn, rfl⟩ | ⟨rfl, z, cc, rfl, hp, kn, ez, ec, rfl⟩ | ⟨rfl, z, cc, L, x4, A, c, ws1, o1, rfl, hJ, hIu, hfr, i1, i2, rfl⟩ | ⟨rfl, z, cc, L, A, c, ws1, o1, rfl, hJ, hIu, hfr, i1, i2, rfl⟩ | ⟨rfl, z, cc, L, j, kk, h, F, c, ws1, o1, rfl, hJ, hIu, hfr, i1, i2, rfl⟩ | ⟨rfl, z, cc, L, x4, j, kk, h, F, c, ws1, o1, v, rfl, ⟨j1, j2⟩, j3, ⟨j4, j5, j6⟩, ⟨j7, j8⟩, j9, j10, j11, j12, j13, j14, j15, j16, j17, rfl⟩)
    · obtain ⟨p1, p2, p3, p4, p5⟩ := wk_ws_po hp w8 w1
      obtain ⟨p6, p7, p8⟩ := p5 kn
      have ixu : (u.1 56 6).toNat = ws.length := by omega
      obtain ⟨⟨lt, t, s1, s2, s3⟩, c1, c2, c3, c4⟩ := k1 kn trivial
      have hb := hcb c2
      refine w_k_ws39 (x1 := u.2.1 57 ws.length) (x2 := u.2.1 58 ws.length) (x3 := k.1.2.1) (x5 := k.2) (c_dv_pnode56 hsL (d + 1) (by omega)) (c_dv_pchain56 hsL (d + 1) (by omega)) (c_dv_plevel56 hsL (d + 1) (by omega)) (c_dv_pother56 hsL (d + 1) (by omega)) (hp trivial).1 (by omega) (by rw [ixu]) (by rw [ixu]) (by rw [ixu]; exact p8) (by rw [ixu]; exact p4) (fun q => ⟨800, by omega, Or.inr (Or.inl ⟨rfl, _, _, rfl, hp, q, rfl, rfl, rfl⟩)⟩) (fun q => ?_)
      have k0 : k.2 = 0 := by omega
      have hby : wk_by (wk_E nm (wk_ht tm)) th S.2.2.2.2 k (a, o) = (we_W (wk_E nm (wk_ht tm)) (wd_v th S.2.2.2.2 (k.1.1.1, dv_lk k.1.1.2, k.1.2.1))).1 k.1.2.1 (a, o) := by
        unfold wk_by
        rw [if_neg kn, if_neg q]
        rfl
      have hZ' : wk_al (wk_E nm (wk_ht tm)) th S.2.2.2.2 ws (wk_by (wk_E nm (wk_ht tm)) th S.2.2.2.2 k (a, o)) = Z := hZ
      rw [hby] at hZ'
      obtain ⟨_, _, ⟨lh, _⟩, _⟩ := c1 trivial
      refine ⟨200 + vx_lh k.1.1.1, by omega, Or.inr (Or.inr (Or.inl ⟨rfl, _, _, _, 0, k.1.1.1, k.1.1.2, ws, o, rfl, fun _ => ⟨⟨p6, p7⟩, by rw [p3]; exact k1 kn, ⟨p1, p2⟩, ⟨by omega, k4, h0⟩, ⟨wk_Dp_c (by rw [((hp trivial).2.1.same 55 rfl).1]) ((hp trivial).2.1.same 65 rfl).2 hDp, ?_⟩, hZ'⟩, (hp trivial).1, frpo u hp, by omega, by omega, rfl⟩))⟩
      rw [hlo, if_pos k0]
      exact Nat.le_refl _
    · have kn2 : k.2 ≠ 2 := by omega
      obtain ⟨p1, p2, p3, p4, p5⟩ := wk_ws_po hp w8 w1
      obtain ⟨p6, p7, p8⟩ := p5 kn2
      rw [← ez] at p6
      rw [← ec] at p7
      obtain ⟨⟨lt, t, s1, s2, s3⟩, c1, c2, c3, c4⟩ := k1 kn2 trivial
      have hcap := hcb c2
      obtain ⟨hIu, hFu, _⟩ := hp trivial
      obtain ⟨hGu, _⟩ := wk_X_fr hX hIu (frpo u hp) trivial
      obtain ⟨y1, y2, _⟩ := hGu trivial
      have b29 := hIu.fld 29 3 (by decide) rfl
      obtain ⟨b1, b2, _⟩ := vx_c1_bd hrk W g4 hbs c1
      obtain ⟨_, _, ⟨L0, _⟩, _⟩ := s1 trivial
      have rz := dv_at_z p6
      have r11 := hIu.fld 11 6 (by decide) rfl
      have rc := dv_ch_rng p7
      have e55u : u.1 55 10 = s.1 55 10 := by rw [(hFu.same 55 rfl).1]
      refine w_k_ws74 (P1 := fun v => ∃ A' c', cx_I v ∧ cx_F [(29, 33)] u v ∧ dv_lf u v ∧ (∀ q, q ≠ 7 → q ≠ 8 → v.1 33 q = u.1 33 q) ∧ dv_at v S.2.2.2.2 A' (v.1 33 7) ∧ dv_c v c' (v.1 29 3) (v.1 33 8) ∧ vx_sd tv tc tm S lt k.1.2.1 t A' c' ∧ (vx_c1 S bs A' (v.1 29 3) k.1.2.1 0 ∧ wk_c S A' ws.length ∧ wk_kc nC A') ∧ (∀ th, vx_So S th → vx_val th S.2.2.2.2 k.1.1.1 (dv_lk k.1.1.2) k.1.2.1 = vx_val th S.2.2.2.2 A' (dv_lk c') k.1.2.1) ∧ (∀ (j : Nat) (m : Int) (F : rf_N), A' = rf_n j 3 m F .leaf → S.2.2.2.1 m = none)) (P2 := fun v t => ((v.2.1 12 (v.1 33 7).toNat ≠ 0 ∧ v.2.1 16 (v.1 33 7).toNat = 0) ∧ wk_PT v t [32]) ∨ ((v.2.1 12 (v.1 33 7).toNat = 0 ∨ 0 < v.2.1 16 (v.1 33 7).toNat) ∧ ∃ w, wk_PT v w [32, 40] ∧ cx_I t ∧ cx_F [(56, 62)] w t ∧ dv_pu 56 (-1, -1, 2, -1, 0, v.1 29 3) w t)) (c_dv_anode hsL (d + 1) (by omega)) (c_dv_achain hsL (d + 1) (by omega)) (by omega) (by omega) (by omega) (fun K' hK' => c_dv_sl hsL (d + 1) (by omega) S PR lt k.1.2.1 t k.1.1.1 k.1.1.2 (fun A' m => vx_c1 S bs A' m k.1.2.1 0 ∧ wk_c S A' ws.length ∧ wk_kc nC A') z cc u K' y1 y2 g3 g4 p6 p7 s1 ⟨by rw [p3]; exact c1, c2, c3⟩ (hstep _ _) (hbd _ _) (fun v A' c' t1 t2 t3 t4 t5 t6 t7 t8 t9 t10 => hK' v ⟨A', c', t1, t2, t3, t4, t5, t6, t7, t8, t9, t10⟩)) (fun v hv => by obtain ⟨_, _, q, _⟩ := hv; exact q) (fun v hv K' hK' => ?_) (fun v tt hv ht => ?_)
      · obtain ⟨A', c', t1, t2, t3, t4, t5, t6, t7, t8, t9, t10⟩ := hv
        obtain ⟨_, ⟨j, kk, h, F, rfl⟩, _⟩ := (t7 trivial).1
        obtain ⟨q1, q2, q3, q4, q5, q6, q7, q8, q9, q10⟩ := dv_at_hd t5
        have e55 : v.1 55 10 = u.1 55 10 := by rw [(t2.same 55 rfl).1]
        have e56 : v.1 56 6 = u.1 56 6 := by rw [(t2.same 56 rfl).1]
        by_cases hc : kk ≠ 0 ∧ rf_len F = 0
        · obtain ⟨q7a, q7b⟩ := q7 hc.1
          refine c_k_baN hsL (d + 1) (by omega) _ v K' t1 (dv_at_z t5) (by omega) (by omega) (by omega) (fun zz tt htt => hK' zz tt (Or.inl ⟨⟨by rw [q3]; exact hc.1, by omega⟩, htt⟩))
        · have hc' : v.2.1 12 (v.1 33 7).toNat = 0 ∨ 0 < v.2.1 16 (v.1 33 7).toNat := by
            by_cases hk0 : kk = 0
            · exact Or.inl (by omega)
            · obtain ⟨q7a, q7b⟩ := q7 hk0
              exact Or.inr (by omega)
          exact c_k_baY hsL (d + 1) (by omega) _ v K' t1 (dv_at_z t5) (by omega) hc' (by omega) (by omega) (fun zz tt w a1 a2 a3 a4 => hK' zz tt (Or.inr ⟨hc', w, a1, a2, a3, a4⟩))
      · obtain ⟨A', c', t1, t2, t3, t4, t5, t6, t7, t8, t9, t10⟩ := hv
        obtain ⟨in1, ⟨j, kk, h, F, rfl⟩, _⟩ := (t7 trivial).1
        obtain ⟨q1, q2, q3, q4, q5, q6, q7, q8, q9, q10⟩ := dv_at_hd t5
        have hval := t9 th hS
        have hbk : we_bk (vx_val th S.2.2.2.2 (rf_n j kk h F .leaf) (dv_lk c') k.1.2.1) ↔ kk = 0 ∨ rf_len F ≠ 0 := wk_bk hg hop (fun q => by
          subst q
          refine ⟨t10 j h F rfl, ?_⟩
          have hl := vx_in_len in1
          rw [(q10 rfl).1, dz_hs_len] at hl
          exact hl.symm)
        have hT : wk_T tv tc tm S th nC bs a ws.length (rf_n j kk h F .leaf) c' k.1.2.1 (v.1 29 3) := fun _ => ⟨⟨lt, t, t7, s2, s3⟩, t8.1, t8.2.1, t8.2.2, fun x hx => c4 x (by rw [hval]; exact hx)⟩
        have wsv : wk_ws v S.2.2.2.2 (v.1 29 3) ws := wk_ws_l t2 t3 p1
        have e55 : v.1 55 10 = s.1 55 10 := by rw [(t2.same 55 rfl).1, e55u]
        have e65 : v.2.1 65 = s.2.1 65 := by rw [(t2.same 65 rfl).2, (hFu.same 65 rfl).2]
        have e56 : v.1 56 6 = (ws.length : Int) := by rw [(t2.same 56 rfl).1]; exact p2
        have Dpv : wb_Dp v o := wk_Dp_c e55 e65 hDp
        have frv : wk_fr s v := wk_fr_t (frpo u hp) (wk_fr_sl t2 t4)
        have lh := t8.1 trivial
        obtain ⟨_, _, ⟨lh1, _⟩, _⟩ := lh
        have hZ' : wk_al (wk_E nm (wk_ht tm)) th S.2.2.2.2 ws (wk_by (wk_E nm (wk_ht tm)) th S.2.2.2.2 (k.1, 1) (a, o)) = Z := by
          have ek : k = (k.1, 1) := by rw [← kn]
          rw [← ek]
          exact hZ
        have ev : wd_v th S.2.2.2.2 (wd_it k.1) = wd_v th S.2.2.2.2 (rf_n j kk h F .leaf, dv_lk c', k.1.2.1) := hval
        have l1 : lo = o.length + 1 := by rw [hlo, if_neg (by omega)]
        rcases ht with ⟨⟨a1, a2⟩, a3⟩ | ⟨a1, w, a2, a3, a4, a5⟩
        · have nb : ¬ we_bk (wd_v th S.2.2.2.2 (wd_it k.1)) := fun cc => by
            rw [ev] at cc
            rcases hbk.mp cc with q | q
            · rw [q3] at a1
              exact a1 q
            · by_cases hk0 : kk = 0
              · rw [q3] at a1
                exact a1 hk0
              · have := (q7 hk0).1
                omega
          rw [wk_arg_n nb, ev, wk_E_b] at hZ'
          obtain ⟨f1, f2, f3, f4, f5⟩ := id a3
          have nf : dv_nf (v.1 11 6) S.2.2.2.2 S.2.2.2.2 v tt := dv_nf_F _ f2 (by decide)
          have e29 : tt.1 29 = v.1 29 := (f2.same 29 rfl).1
          refine ⟨200 + vx_lh (rf_n j kk h F .leaf), by omega, Or.inr (Or.inr (Or.inl ⟨rfl, _, _, _, 0, rf_n j kk h F .leaf, c', ws, o ++ [32], rfl, fun _ => ⟨⟨dv_at_fr (Int.le_refl _) nf t5, ?_⟩, by rw [e29]; exact hT, ⟨by rw [e29]; exact wk_ws_p f2 wsv, by rw [(f2.same 56 rfl).1]; exact e56⟩, ⟨by omega, k4, h0⟩, ⟨f5 o Dpv, ?_⟩, hZ'⟩, f1, wk_fr_t frv (wk_fr_p a3), by omega, ?_, rfl⟩))⟩
          · rw [e29]
            refine dv_ch_fr (fun i _ => ?_) t6
            rw [(f2.same 30 rfl).2, (f2.same 31 rfl).2, (f2.same 32 rfl).2]
            exact ⟨rfl, rfl, rfl⟩
          · rw [List.length_append, List.length_singleton]
            omega
          · rw [List.length_append, List.length_singleton]
            omega
        · have yb : we_bk (wd_v th S.2.2.2.2 (wd_it k.1)) := by
            rw [ev]
            refine hbk.mpr ?_
            by_cases hk0 : kk = 0
            · exact Or.inl hk0
            · refine Or.inr (fun q => ?_)
              have := (q7 hk0).1
              rcases a1 with a1 | a1
              · rw [q3] at a1
                exact hk0 a1
              · omega
          rw [wk_arg_y yb, ev, wk_E_b] at hZ'
          obtain ⟨f1, f2, f3, f4, f5⟩ := id a2
          have nf1 : dv_nf (v.1 11 6) S.2.2.2.2 S.2.2.2.2 v w := dv_nf_F _ f2 (by decide)
          have nf2 : dv_nf (w.1 11 6) S.2.2.2.2 S.2.2.2.2 w tt := dv_nf_F _ a4 (by decide)
          have e29 : w.1 29 = v.1 29 := (f2.same 29 rfl).1
          have e29t : tt.1 29 = v.1 29 := by rw [(a4.same 29 rfl).1, e29]
          have v29 := t1.fld 29 3 (by decide) rfl
          have wsw : wk_ws w S.2.2.2.2 (v.1 29 3) ws := wk_ws_p f2 wsv
          have hpu := wk_ws_pu (A := .leaf) (c := []) a4 a5 (by rw [(f2.same 56 rfl).1]; exact e56) v29.1 wsw (fun q => absurd rfl q)
          have hZ2 : wk_al (wk_E nm (wk_ht tm)) th S.2.2.2.2 ((((.leaf, []), 0, v.1 29 3), 2) :: ws) ((we_W (wk_E nm (wk_ht tm)) (wd_v th S.2.2.2.2 (rf_n j kk h F .leaf, dv_lk c', k.1.2.1))).1 k.1.2.1 (a, o ++ [32, 40])) = Z := by
            show wk_al (wk_E nm (wk_ht tm)) th S.2.2.2.2 ws (wk_by (wk_E nm (wk_ht tm)) th S.2.2.2.2 (((.leaf, []), 0, v.1 29 3), 2) _) = Z
            unfold wk_by
            rw [if_pos rfl]
            rw [wk_E_b nm (wk_ht tm) [32, 40] a o] at hZ'
            refine Eq.trans (congrArg (wk_al (wk_E nm (wk_ht tm)) th S.2.2.2.2 ws) ?_) hZ'
            exact wk_E_b nm (wk_ht tm) [41] _ _
          refine ⟨200 + vx_lh (rf_n j kk h F .leaf), by omega, Or.inr (Or.inr (Or.inl ⟨rfl, _, _, _, 0, rf_n j kk h F .leaf, c', (((.leaf, []), 0, v.1 29 3), 2) :: ws, o ++ [32, 40], rfl, fun _ => ⟨⟨dv_at_fr (Int.le_refl _) nf2 (dv_at_fr (Int.le_refl _) nf1 t5), ?_⟩, by rw [e29t]; exact hT, ⟨by rw [e29t]; exact hpu.1, hpu.2⟩, ⟨by rw [List.length_cons]; omega, ⟨fun q => absurd rfl q, k4⟩, fun p hp' => ?_⟩, ⟨wk_Dp_c (by rw [(a4.same 55 rfl).1]) (a4.same 65 rfl).2 (f5 o Dpv), ?_⟩, hZ2⟩, a3, wk_fr_t (wk_fr_t frv (wk_fr_p a2)) (wk_fr_F a4 (by decide)), by omega, ?_, rfl⟩))⟩
          · rw [e29t]
            refine dv_ch_fr (fun i _ => ?_) t6
            rw [(a4.same 30 rfl).2, (a4.same 31 rfl).2, (a4.same 32 rfl).2, (f2.same 30 rfl).2, (f2.same 31 rfl).2, (f2.same 32 rfl).2]
            exact ⟨rfl, rfl, rfl⟩
          · rcases List.mem_cons.mp hp' with rfl | hp'
            · exact Or.inr rfl
            · exact h0 p hp'
          · rw [List.length_append]
            show lo ≤ o.length + 2
            omega
          · rw [List.length_append]
            show o.length + 2 ≤ _
            omega
    · obtain ⟨⟨x1, x2⟩, x3, ⟨x5, x6⟩, ⟨x7, x8, x9⟩, ⟨x10, x11⟩, x12⟩ := hJ trivial
      have x3' := x3
      obtain ⟨⟨lt, t, s1, s2, s3⟩, c1, c2, c3, c4⟩ := x3' trivial
      obtain ⟨b1, b2, b3, b4⟩ := vx_c1_bd hrk W g4 hbs c1
      obtain ⟨⟨in1, ⟨j, kk, h, F, rfl⟩, _⟩, _, ⟨L0, _⟩, _⟩ := s1 trivial
      have rz := dv_at_z x1
      have rc := dv_ch_rng x2
      have b29 := hIu.fld 29 3 (by decide) rfl
      obtain ⟨q1, q2, q3, q4, q5, q6, q7, q8, q9, q10⟩ := dv_at_hd x1
      have e55 := x10.1
      by_cases hk0 : kk = 0
      · subst hk0
        obtain ⟨⟨e1, e2, e3⟩, e4⟩ := dv_at_lam x1
        have hF : vx_sg F := by
          obtain ⟨a', b, c', d', ee, _⟩ := e4
          exact ⟨a', b, c', d', ee⟩
        obtain ⟨l1, l2⟩ := vx_lh_lam (j := j) (x := h) (F := F)
        rw [l1] at i1 b1 b2
        refine w_k_ws107y (P1 := fun v => wk_PT u v (92 :: 120 :: (wb_dg L ++ [46]))) (c_dz_kind hsL (d + 1) (by omega)) (c_dz_head hsL (d + 1) (by omega)) (c_dz_body hsL (d + 1) (by omega)) (c_dv_with hsL (d + 1) (by omega)) hIu rz (by omega) (by omega) (by omega) e1 (by omega) (fun K' hK' => c_k_putB hsL (d + 1) (by omega) L u K' hIu (by omega) (by omega) hK') (fun v hv => ⟨hv.1, hv.2.1⟩) (fun v tt hv t1 t2 t3 => ?_)
        rw [e2] at t3
        obtain ⟨f1, f2, f3, f4, f5⟩ := id hv
        have p1 := (t3 trivial).1
        have e29 : v.1 29 = u.1 29 := (f2.same 29 rfl).1
        have nf1 : dv_nf (u.1 11 6) S.2.2.2.2 S.2.2.2.2 u v := dv_nf_F _ f2 (by decide)
        have nf2 : dv_nf (v.1 11 6) S.2.2.2.2 S.2.2.2.2 v tt := dv_nf_F _ t2 (by decide)
        have cv : dv_c v c (u.1 29 3) cc := by
          refine dv_ch_fr (fun i _ => ?_) x2
          rw [(f2.same 30 rfl).2, (f2.same 31 rfl).2, (f2.same 32 rfl).2]
          exact ⟨rfl, rfl, rfl⟩
        have wsv : wk_ws v S.2.2.2.2 (v.1 29 3) ws1 := by
          rw [e29]
          exact wk_ws_p f2 x5
        have wst : wk_ws tt S.2.2.2.2 (tt.1 29 3) ws1 := wk_ws_l (cx_F_step t2 rfl (cx_F_refl _ _)) (dv_w1_lf t3) wsv
        have hT := wk_T_lam hF x3
        have bl := wk_bw_len L
        have hZ' : wk_al (wk_E nm (wk_ht tm)) th S.2.2.2.2 ws1 ((we_W (wk_E nm (wk_ht tm)) (wd_v th S.2.2.2.2 (F, dv_lk ((h, L) :: c), L + 1))).1 (L + 1) (a, o1 ++ (92 :: 120 :: (wb_dg L ++ [46])))) = Z := by
          rw [wk_lam] at x12
          rw [← x12]
          congr 2
          exact congrArg ((we_W (wk_E nm (wk_ht tm)) (wd_v th S.2.2.2.2 (F, dv_lk ((h, L) :: c), L + 1))).1 (L + 1)) (wk_E_b nm (wk_ht tm) (92 :: 120 :: (wb_dg L ++ [46])) a o1).symm
        refine ⟨200 + vx_lh F, by rw [l1]; omega, Or.inr (Or.inr (Or.inl ⟨rfl, u.2.1 14 z.toNat, u.1 29 3, L + 1, x4 + 1, F, (h, L) :: c, ws1, o1 ++ (92 :: 120 :: (wb_dg L ++ [46])), rfl, fun _ => ⟨⟨dv_at_fr (Int.le_refl _) nf2 (dv_at_fr (Int.le_refl _) nf1 e4), ?_⟩, ?_, ⟨wst, by rw [(t2.same 56 rfl).1, (f2.same 56 rfl).1]; exact x6⟩, ⟨x7, x8, x9⟩, ⟨wk_Dp_c (by rw [(t2.same 55 rfl).1]) (t2.same 65 rfl).2 (f5 o1 x10), by rw [List.length_append]; omega⟩, hZ'⟩, t1, wk_fr_t (wk_fr_t hfr (wk_fr_p hv)) (wk_fr_F t2 (by decide)), by omega, by rw [List.length_append]; omega, rfl⟩))⟩
        · have := dv_w1_c (by rw [e29]; exact b29.1) t3 (by rw [e29]; exact Int.le_refl _) cv
          rw [e29] at this
          exact this
        · rw [p1, e29]
          exact hT
      · refine w_k_ws107n (c_dz_kind hsL (d + 1) (by omega)) hIu rz (by omega) (by rw [q3]; exact hk0) ⟨150, by omega, Or.inr (Or.inr (Or.inr (Or.inl ⟨rfl, z, cc, L, rf_n j kk h F .leaf, c, ws1, o1, rfl, hJ, hIu, hfr, fun q => ?_, by omega, rfl⟩)))⟩
        obtain ⟨j', x', F', e⟩ := q
        injection e with _ e2
        exact hk0 (Prod.mk.inj e2).1
    · obtain ⟨⟨x1, x2⟩, x3, ⟨x5, x6⟩, ⟨x7, x8, x9⟩, ⟨x10, x11⟩, x12⟩ := hJ trivial
      obtain ⟨⟨lt, t, s1, s2, s3⟩, c1, c2, c3, c4⟩ := x3 trivial
      have hcap := hcb c2
      obtain ⟨b1, b2, b3, b4⟩ := vx_c1_bd hrk W g4 hbs c1
      obtain ⟨⟨in1, sg1, ty1⟩, _, ⟨L0, _⟩, _⟩ := s1 trivial
      have rz := dv_at_z x1
      have rc := dv_ch_rng x2
      have b29 := hIu.fld 29 3 (by decide) rfl
      have r11 := hIu.fld 11 6 (by decide) rfl
      have e55 := x10.1
      have hXu := wk_X_fr hX hIu hfr
      obtain ⟨hGu, hNu, _, _, _, htyu, _⟩ := hXu trivial
      obtain ⟨y1, y2, _⟩ := hGu trivial
      have tb : t = rf_b := by
        obtain ⟨j, kk, h, F, rfl⟩ := sg1
        rcases ty1 with ⟨q, _⟩ | ⟨_, q, _⟩ | ⟨_, q, _⟩ | ⟨_, q, _⟩
        · have q' : kk = 0 := q
          exact absurd ⟨j, h, F, by rw [q']⟩ i1
        · exact q
        · exact q
        · exact q
      refine w_k_ws167 (P1 := fun v => ∃ A' c', cx_I v ∧ cx_F [(29, 33)] u v ∧ dv_lf u v ∧ (∀ q, q ≠ 7 → q ≠ 8 → v.1 33 q = u.1 33 q) ∧ dv_at v S.2.2.2.2 A' (v.1 33 7) ∧ dv_c v c' (v.1 29 3) (v.1 33 8) ∧ vx_sd tv tc tm S lt L t A' c' ∧ (vx_c1 S bs A' (v.1 29 3) L 0 ∧ wk_c S A' ws.length ∧ wk_kc nC A') ∧ (∀ th, vx_So S th → vx_val th S.2.2.2.2 A (dv_lk c) L = vx_val th S.2.2.2.2 A' (dv_lk c') L) ∧ (∀ (j : Nat) (m : Int) (F : rf_N), A' = rf_n j 3 m F .leaf → S.2.2.2.1 m = none)) (P2 := fun v t => ∃ l, wk_PT v t l ∧ ∀ o, (we_W (wk_E nm (wk_ht tm)) (wd_v th S.2.2.2.2 (A, dv_lk c, L))).1 L (a, o) = (a, o ++ l)) (c_dv_anode hsL (d + 1) (by omega)) (c_dv_achain hsL (d + 1) (by omega)) (c_dz_kind hsL (d + 1) (by omega)) (by omega) (by omega) (by omega) (fun K' hK' => c_dv_sl hsL (d + 1) (by omega) S PR lt L t A c (fun A' m => vx_c1 S bs A' m L 0 ∧ wk_c S A' ws.length ∧ wk_kc nC A') z cc u K' y1 y2 g3 g4 x1 x2 s1 ⟨c1, c2, c3⟩ (hstep _ _) (hbd _ _) (fun v A' c' t1 t2 t3 t4 t5 t6 t7 t8 t9 t10 => hK' v ⟨A', c', t1, t2, t3, t4, t5, t6, t7, t8, t9, t10⟩)) (fun v hv => by obtain ⟨A', _, q, _, _, _, q5, _⟩ := hv; exact ⟨q, dv_at_z q5⟩) (fun v hv hk3 K' hK' => ?_) (fun v tt hv hk3 ht => ?_) (fun v hv hk3 => ?_)
      · obtain ⟨A', c', t1, t2, t3, t4, t5, t6, t7, t8, t9, t10⟩ := hv
        obtain ⟨⟨in2, ⟨j, kk, h, F, rfl⟩, ty2⟩, lt2, ⟨_, ck2⟩, _⟩ := id (t7 trivial)
        obtain ⟨q1, q2, q3, q4, q5, q6, q7, q8, q9, q10⟩ := dv_at_hd t5
        rw [q3] at hk3
        subst hk3
        obtain ⟨q7a, q7b⟩ := q7 (by decide)
        obtain ⟨q13, q14, q15⟩ := q10 rfl
        obtain ⟨m0, m1⟩ := in2.1 h (Or.inl ⟨rfl, rfl⟩)
        have hopn := t10 j h F rfl
        have hl := vx_in_len in2
        have hl' : (rf_len F : Int) = S.2.2.1 h := by
          rw [q13, dz_hs_len] at hl
          exact hl
        have hlev := vx_sd_open hopn hl t7
        have frv : wk_fr s v := wk_fr_t hfr (wk_fr_sl t2 t4)
        obtain ⟨hGv, hNv, _, _, _, htyv, _⟩ := wk_X_fr hX t1 frv trivial
        obtain ⟨_, z2, _⟩ := hGv trivial
        obtain ⟨⟨M1, M2, M3, M5⟩, M4⟩ := z2 trivial
        have hmem : -1 - h ∈ a.map Prod.fst := by
          refine c4 (-1 - h) ?_
          rw [t9 th hS]
          obtain ⟨Fv, e1, _⟩ := wd_open (L := L) (F := F) (e := dv_lk c') hS (hop h hopn) hl
          have e1' : vx_val th S.2.2.2.2 (rf_n j 3 h F .leaf) (dv_lk c') L = .inner 0 (1, -1 - h) () Fv .leaf := e1
          rw [e1', wz_oc_in, if_pos ⟨rfl, by show -1 - h < 0; omega⟩]
          exact Or.inl rfl
        have hv : ∀ x : Nat, x < rf_len F → (0 ≤ dv_lk c' ((dz_hs F).getD x (-1)) ∧ dv_lk c' ((dz_hs F).getD x (-1)) ≤ 99990000) ∧ (0 ≤ (dz_hs F).getD x (-1) ∧ (dz_hs F).getD x (-1) < v.1 11 8) ∧ wk_ty v ((wk_ht tm (-1 - h)).getD x .leaf) (v.2.1 17 ((dz_hs F).getD x (-1)).toNat) ∧ rf_at ((wk_ht tm (-1 - h)).getD x .leaf) ≤ 5 := fun x hx => by
          have hx' : x < (dz_hs F).length := by rw [dz_hs_len]; exact hx
          rw [wk_ht_at (by omega), vx_gD hx']
          have ylev := hlev (dz_hs F)[x] (by rw [q13]; exact List.getElem_mem hx')
          have ylt := ((vx_ck_lk L0 ck2).1 (dz_hs F)[x]).2
          have yty : tv (dz_hs F)[x] = tm h (x : Int) := by
            rcases ty2 with ⟨q, _⟩ | ⟨q, _⟩ | ⟨q, _⟩ | ⟨_, _, q⟩
            · exact absurd q (show ¬ (3 : Int) = 0 by decide)
            · exact absurd q (show ¬ (3 : Int) = 1 by decide)
            · exact absurd q (show ¬ (3 : Int) = 2 by decide)
            · exact q x _ (by rw [q13]; exact List.getElem?_eq_getElem hx')
          have y5 : rf_at (tv (dz_hs F)[x]) ≤ 5 := by
            rw [lt2 _ ylev]
            exact s3 _ ylev ylt
          obtain ⟨v1', v2'⟩ := htyv _ y5
          rw [← yty]
          exact ⟨⟨ylev, by omega⟩, v1', v2', y5⟩
        obtain ⟨ha, hU⟩ := wk_U_of (ht := wk_ht tm) hNv m0 m1 hopn hl' q7b hmem hv
        have nlen := wd_N_len (by omega) hNv
        have ilt : vx_ii (a.map Prod.fst) (-1 - h) < (a.length : Int) := (wd_N_at hNv m0 m1 hopn (by omega) hmem).2.1
        have v29 := t1.fld 29 3 (by decide) rfl
        refine c_k_putU hsL (d + 1) (by omega) _ _ _ (v.1 29 3) h F c' _ _ _ v K' t1 (dv_at_z t5) ⟨q4, m0, by omega⟩ q6 q7a q7b t6 (Int.le_refl _) (by omega) (by omega) hU (by rw [(t2.same 55 rfl).1]; omega) (fun zz tt htt => hK' zz tt ⟨_, htt, fun o' => ?_⟩)
        have ev : wd_v th S.2.2.2.2 (A, dv_lk c, L) = wd_v th S.2.2.2.2 (rf_n j 3 h F .leaf, dv_lk c', L) := t9 th hS
        rw [ev]
        exact wk_U_w hS (hop h hopn) q13 hl' m0 ha
      · obtain ⟨A', c', t1, t2, t3, t4, t5, t6, t7, t8, t9, t10⟩ := hv
        obtain ⟨l, l1, l2⟩ := ht
        obtain ⟨f1, f2, f3, f4, f5⟩ := id l1
        have wsv := wk_ws_l t2 t3 x5
        have e29 : tt.1 29 = v.1 29 := (f2.same 29 rfl).1
        rw [l2] at x12
        exact hK tt (o1 ++ l) ws1 f1 (wk_fr_t (wk_fr_t hfr (wk_fr_sl t2 t4)) (wk_fr_p l1)) ⟨by rw [e29]; exact wk_ws_p f2 wsv, by rw [(f2.same 56 rfl).1, (t2.same 56 rfl).1]; exact x6⟩ x8 x9 (f5 o1 (wk_Dp_c (by rw [(t2.same 55 rfl).1]) (t2.same 65 rfl).2 x10)) (by rw [List.length_append]; omega) x12
      · obtain ⟨A', c', t1, t2, t3, t4, t5, t6, t7, t8, t9, t10⟩ := hv
        obtain ⟨⟨_, ⟨j, kk, h, F, rfl⟩, ty2⟩, _⟩ := id (t7 trivial)
        obtain ⟨q1, q2, q3, q4, q5, q6, q7, q8, q9, q10⟩ := dv_at_hd t5
        rw [q3] at hk3
        have hk0 : kk ≠ 0 := fun q => by
          rcases ty2 with ⟨_, B, q', _⟩ | ⟨q', _⟩ | ⟨q', _⟩ | ⟨q', _⟩
          · rw [tb] at q'
            cases q'
          · have : kk = 1 := q'
            omega
          · have : kk = 2 := q'
            omega
          · have : kk = 3 := q'
            omega
        have ev : wd_v th S.2.2.2.2 (A, dv_lk c, L) = wd_v th S.2.2.2.2 (rf_n j kk h F .leaf, dv_lk c', L) := t9 th hS
        have hval := t9 th hS
        rw [ev] at x12
        refine ⟨100, by omega, Or.inr (Or.inr (Or.inr (Or.inr (Or.inl ⟨rfl, _, _, _, j, kk, h, F, c', ws1, o1, rfl, fun _ => ⟨⟨t5, t6⟩, fun _ => ⟨⟨lt, t, t7, s2, s3⟩, t8.1, t8.2.1, t8.2.2, fun x hx => c4 x (by rw [hval]; exact hx)⟩, ⟨wk_ws_l t2 t3 x5, by rw [(t2.same 56 rfl).1]; exact x6⟩, ⟨x7, x8, x9⟩, ⟨wk_Dp_c (by rw [(t2.same 55 rfl).1]) (t2.same 65 rfl).2 x10, x11⟩, x12⟩, t1, wk_fr_t hfr (wk_fr_sl t2 t4), by omega, i2, rfl⟩))))⟩
    · obtain ⟨⟨x1, x2⟩, x3, ⟨x5, x6⟩, ⟨x7, x8, x9⟩, ⟨x10, x11⟩, x12⟩ := hJ trivial
      obtain ⟨⟨lt, t, s1, s2, s3⟩, c1, c2, c3, c4⟩ := id (x3 trivial)
      obtain ⟨b1, b2, b3, b4⟩ := vx_c1_bd hrk W g4 hbs c1
      obtain ⟨_, _, ⟨L0, ck⟩, _⟩ := s1 trivial
      have rz := dv_at_z x1
      have rc := dv_ch_rng x2
      have b29 := hIu.fld 29 3 (by decide) rfl
      have r11 := hIu.fld 11 6 (by decide) rfl
      have e55 := x10.1
      obtain ⟨q1, q2, q3, q4, q5, q6, q7, q8, q9, q10⟩ := dv_at_hd x1
      obtain ⟨q7a, q7b⟩ := q7 (by omega)
      obtain ⟨_, _, _, _, hnmu, _, _⟩ := wk_X_fr hX hIu hfr trivial
      have e19 : u.1 19 2 = nC := by rw [((hfr trivial).1.same 19 rfl).1, hnC]
      have hl : ∃ l : List Int, (∀ K' : Int → sx_S → Prop, (∀ zz tt, wk_PT u tt l → K' zz tt) → sx_C sL sx (d + 1) 130 [.inr (.inl 55), .inl z, .inl cc] u K') ∧ ∀ o, (we_W (wk_E nm (wk_ht tm)) (wd_v th S.2.2.2.2 (rf_n j kk h F .leaf, dv_lk c, L))).1 L (a, o) = (we_W (wk_E nm (wk_ht tm)) (vx_val th S.2.2.2.2 F (dv_lk c) L)).2 L (a, o ++ l) := by
        by_cases k2 : kk = 2
        · subst k2
          have hv := vx_sd_var s1
          have hlt := ((vx_ck_lk L0 ck).1 h).2
          refine ⟨120 :: wb_dg (dv_lk c h), fun K' hK' => c_k_hv hsL (d + 1) (by omega) z cc (u.1 29 3) h c u K' hIu rz (by rw [q3]) q4 x2 (Int.le_refl _) ⟨hv.1, by omega⟩ (by omega) hK', fun o => ?_⟩
          rw [wk_var]
          exact congrArg ((we_W (wk_E nm (wk_ht tm)) (vx_val th S.2.2.2.2 F (dv_lk c) L)).2 L) (wk_E_b nm (wk_ht tm) _ a o)
        · have k1' : kk = 1 := by omega
          subst k1'
          have hh : h < nC := c3.1 rfl
          obtain ⟨n1, n2⟩ := hnmu h q5 (by omega)
          refine ⟨nm h, fun K' hK' => c_k_hc hsL (d + 1) (by omega) z cc h u K' hIu rz (by omega) (by omega) (by omega) q4 n1 (by omega) (fun zz tt htt => hK' zz tt (by rw [n2]; exact htt)), fun o => ?_⟩
          rw [wk_con q5]
          exact congrArg ((we_W (wk_E nm (wk_ht tm)) (vx_val th S.2.2.2.2 F (dv_lk c) L)).2 L) (wk_E_b nm (wk_ht tm) _ a o)
      obtain ⟨l, l1, l2⟩ := hl
      rw [l2] at x12
      refine w_k_ws212 (P1 := fun v => wk_PT u v l) (c_dz_arity hsL (d + 1) (by omega)) rz (by omega) (by omega) (by omega) q7a (by omega) l1 (fun v hv => ⟨hv.1, hv.2.1⟩) (fun v hv => ?_)
      obtain ⟨f1, f2, f3, f4, f5⟩ := id hv
      have nf : dv_nf (u.1 11 6) S.2.2.2.2 S.2.2.2.2 u v := dv_nf_F _ f2 (by decide)
      have e29 : v.1 29 = u.1 29 := (f2.same 29 rfl).1
      refine ⟨rf_len F, by omega, Or.inr (Or.inr (Or.inr (Or.inr (Or.inr ⟨rfl, z, cc, L, _, j, kk, h, F, c, ws1, o1 ++ l, v, rfl, ⟨dv_at_fr (Int.le_refl _) nf x1, ?_⟩, by rw [e29]; exact x3, ⟨x7, x8, x9⟩, ⟨f5 o1 x10, by rw [List.length_append]; omega⟩, x12, f1, wk_fr_t hfr (wk_fr_p hv), i1, by omega, f1, cx_F_refl _ _, ?_, by rw [(f2.same 56 rfl).1]; omega, by omega⟩))))⟩
      · rw [e29]
        refine dv_ch_fr (fun i _ => ?_) x2
        rw [(f2.same 30 rfl).2, (f2.same 31 rfl).2, (f2.same 32 rfl).2]
        exact ⟨rfl, rfl, rfl⟩
      · have zl : (wk_wz F c L (v.1 29 3)).length = rf_len F := by
          unfold wk_wz
          rw [List.length_map, vx_el_len]
        rw [show ((rf_len F : Int) - 1 + 1).toNat = rf_len F by omega, List.drop_of_length_le (by omega), e29]
        exact wk_ws_p f2 x5
    · obtain ⟨⟨lt, t, s1, s2, s3⟩, c1, c2, c3, c4⟩ := id (j3 trivial)
      obtain ⟨b1, b2, b3, b4⟩ := vx_c1_bd hrk W g4 hbs c1
      have hcap := hcb c2
      rw [vx_ha_rig (by omega) (by omega)] at hcap
      obtain ⟨_, _, ⟨L0, _⟩, _⟩ := s1 trivial
      have rz := dv_at_z j1
      have rc := dv_ch_rng j2
      have v29 := j10.fld 29 3 (by decide) rfl
      obtain ⟨q1, q2, q3, q4, q5, q6, q7, q8, q9, q10⟩ := dv_at_hd j1
      obtain ⟨q7a, q7b⟩ := q7 (by omega)
      have trF := q9 j12
      have nf : dv_nf (v.1 11 6) S.2.2.2.2 S.2.2.2.2 v u := dv_nf_F _ j15 (by decide)
      have e11 : u.1 11 = v.1 11 := (j15.same 11 rfl).1
      have e29 : u.1 29 = v.1 29 := (j15.same 29 rfl).1
      have lk : ∀ i : Nat, u.2.1 30 i = v.2.1 30 i ∧ u.2.1 31 i = v.2.1 31 i ∧ u.2.1 32 i = v.2.1 32 i := fun i => by
        rw [(j15.same 30 rfl).2, (j15.same 31 rfl).2, (j15.same 32 rfl).2]
        exact ⟨rfl, rfl, rfl⟩
      have zl : (wk_wz F c L (v.1 29 3)).length = rf_len F := by
        unfold wk_wz
        rw [List.length_map, vx_el_len]
      by_cases hx : 0 ≤ x4
      · have a3' : dz_nd u F (u.2.1 14 z.toNat) := by
          rw [(j15.same 14 rfl).2]
          exact dz_nd_fr q6 (nf trivial).1 (fun i hi => rf_nd_lt q6 i hi)
        have a8' : dv_tr (u.2.1 16) S.2.2.2.2 F := by rw [(j15.same 16 rfl).2]; exact trF
        obtain ⟨w, hw⟩ := dv_drx x4.toNat a3'
        obtain ⟨A, eA, tA⟩ := dv_el_at (by omega) a8' hw
        have hlt : x4.toNat < (wk_wz F c L (v.1 29 3)).length := by omega
        have zat : (wk_wz F c L (v.1 29 3))[x4.toNat]? = some (((A, c), L, v.1 29 3), 1) := by
          unfold wk_wz
          rw [List.getElem?_map, eA]
          rfl
        have zdr : (wk_wz F c L (v.1 29 3)).drop x4.toNat = (((A, c), L, v.1 29 3), 1) :: (wk_wz F c L (v.1 29 3)).drop (x4.toNat + 1) := by
          rw [List.drop_eq_getElem_cons hlt]
          rw [List.getElem?_eq_getElem hlt] at zat
          rw [Option.some.inj zat]
        have rlen : (((wk_wz F c L (v.1 29 3)).drop (x4 + 1).toNat ++ ws1).length : Int) = u.1 56 6 := by
          rw [List.length_append, List.length_drop, zl]
          omega
        refine w_k_ws230 (w := w) (c_dv_mark hsL (d + 1) (by omega)) (c_dv_pair56 hsL (d + 1) (by omega)) (fun _ K' hK' => ?_) j14 (by omega) (by omega) (by omega) (fun _ => dv_at_z tA) (fun _ => by omega) (fun q => absurd q (by omega)) (fun _ tt u1 u2 u3 => ?_)
        · refine c_dz_arg hsL (d + 1) (by omega) _ _ F _ _ j14 (by rw [e11]; exact rz) (by omega) a3' (fun z' _ q' => ?_)
          rw [dv_nd1 q' hw]
          exact hK'
        · have t29 : tt.1 29 3 = v.1 29 3 := by rw [(u2.same 29 rfl).1, e29]
          rw [e29] at u3
          have hcu : dv_c u c (v.1 29 3) cc := dv_ch_fr (fun i _ => lk i) j2
          rw [e29] at j16
          have key := wk_ws_pu (A := A) (c := c) u2 u3 rlen.symm v29.1 j16 (fun _ => ⟨tA, hcu⟩)
          refine ⟨x4.toNat, by omega, Or.inr (Or.inr (Or.inr (Or.inr (Or.inr ⟨rfl, z, cc, L, x4 - 1, j, kk, h, F, c, ws1, o1, v, rfl, ⟨j1, j2⟩, j3, ⟨j4, j5, j6⟩, ⟨j7, j8⟩, j9, j10, j11, j12, by omega, u1, cx_F_step u2 rfl j15, ?_, ?_, by omega⟩))))⟩
          · rw [show (x4 - 1 + 1).toNat = x4.toNat by omega, zdr, List.cons_append, show x4.toNat + 1 = (x4 + 1).toNat by omega, t29]
            exact key.1
          · have := (u3 trivial).1
            omega
      · have ex : x4 = -1 := by omega
        refine w_k_ws230 (w := 0) (c_dv_mark hsL (d + 1) (by omega)) (c_dv_pair56 hsL (d + 1) (by omega)) (fun q => absurd q hx) j14 (by omega) (by omega) (by omega) (fun q => absurd q hx) (fun q => absurd q hx) (fun _ => ?_) (fun q => absurd q hx)
        rw [ex] at j16
        have j16' : wk_ws u S.2.2.2.2 (u.1 29 3) (wk_wz F c L (v.1 29 3) ++ ws1) := j16
        refine hK u o1 (wk_wz F c L (v.1 29 3) ++ ws1) j14 (wk_fr_t j11 (wk_fr_F j15 (by decide))) ⟨j16', by rw [List.length_append, zl]; omega⟩ ?_ (fun p hp => ?_) (wk_Dp_c (by rw [(j15.same 55 rfl).1]) (j15.same 65 rfl).2 j7) j8 ?_
        · unfold wk_wz
          exact wk_en_wz (n := rf_len F) j5 (by rw [vx_el_len]; exact Nat.le_refl _) (fun A hA i' hi' => wk_T_el hg j12 q5 htc hA (by omega) j3)
        · rcases List.mem_append.mp hp with hp | hp
          · unfold wk_wz at hp
            obtain ⟨A, _, rfl⟩ := List.mem_map.mp hp
            exact Or.inl rfl
          · exact j6 p hp
        · rw [wk_al_app, wk_al_wz hg]
          exact j9
end
