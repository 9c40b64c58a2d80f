/-! ===== the desk's writing: what holds of the pile, what stays ===== -/
/-- an entry at place i of the pile -/
def wk_c (S : vx_S) (A : rf_N) (i : Nat) : Prop := True → ∃ w, vx_wu S w A ∧ vx_ha A ≤ 84 ∧ i + vx_ha A ≤ 84 + 84 * vx_ls (vx_rw S) w
theorem wk_c_bd {S : vx_S} {A : rf_N} {i : Nat} {rk : Int → Nat} (hr : vx_rk S rk) (hW : vx_W S) (hC : vx_CT S) (h : wk_c S A i) : i + vx_ha A ≤ 504 := by
  obtain ⟨w, a1, _, a3⟩ := h trivial
  have c1 := vx_lc_bd hr hW hC a1
  omega
theorem wk_c_lam {S : vx_S} {j : Nat} {x : Int} {F : rf_N} {i : Nat} (h : wk_c S (rf_n j 0 x F .leaf) i) : wk_c S F i := fun _ => by
  obtain ⟨w, a1, a2, a3⟩ := h trivial
  rw [vx_ha_lam] at a2 a3
  exact ⟨w, vx_wu_sub (A := rf_n j 0 x F .leaf) (fun m hm => Or.inr (Or.inl ⟨vx_03, hm⟩)) a1, a2, a3⟩
theorem wk_c_el {S : vx_S} {j : Nat} {k h : Int} {F A : rf_N} {i i' : Nat} (h0 : k ≠ 0) (h3 : k ≠ 3) (hA : A ∈ vx_el F) (hi : i' ≤ i + rf_len F) (h1 : wk_c S (rf_n j k h F .leaf) i) : wk_c S A i' := fun _ => by
  obtain ⟨w, a1, a2, a3⟩ := h1 trivial
  have m1 := vx_ha_el hA
  rw [vx_ha_rig h0 h3] at a2 a3
  exact ⟨w, vx_wu_sub (A := rf_n j k h F .leaf) (fun m hm => Or.inr (Or.inl ⟨h3, vx_mt_el.mpr ⟨A, hA, hm⟩⟩)) a1, by omega, by omega⟩
theorem wk_c_in {S : vx_S} {j : Nat} {m : Int} {F X : rf_N} {e : Int → Int} {i : Nat} (hX : vx_ha X ≤ 84) (hs : vx_sg X) (hb : S.2.2.2.1 m = some (X, e)) (h : wk_c S (rf_n j 3 m F .leaf) i) : wk_c S X i := fun _ => by
  obtain ⟨w, a1, _, a3⟩ := h trivial
  rw [vx_ha_call] at a3
  have hrw : vx_ha X ≤ 84 * vx_rw S m := by
    obtain ⟨j', k', h', G, rfl⟩ := hs
    by_cases q : k' = 3
    · subst q
      rw [vx_ha_call]
      exact Nat.zero_le _
    · have : vx_rw S m = 1 := by
        unfold vx_rw
        rw [hb]
        exact if_neg q
      omega
  have e1 : vx_ls (vx_rw S) (m :: w) = vx_rw S m + vx_ls (vx_rw S) w := rfl
  exact ⟨m :: w, vx_wu_in (A := rf_n j 3 m F .leaf) hb (Or.inl ⟨rfl, rfl⟩) a1, hX, by rw [e1]; omega⟩
theorem vx_ty_el1 {tv tc : Int → rf_T} {tm : Int → Int → rf_T} {AR : Nat → List Int} {A : rf_N} : ∀ {F : rf_N} {u : rf_T}, (vx_ty tv tc tm AR F).2 u → A ∈ vx_el F → ∃ t, (vx_ty tv tc tm AR A).1 t ∧ rf_at t + 1 ≤ rf_at u
  | .leaf, _, _, h => absurd h List.not_mem_nil
  | .inner j q u' F X, u, ⟨A', B, e, h1, h2⟩, h => by
    have e2 : rf_at u = rf_at A' + rf_at B := by
      rw [e]
      rfl
    rcases List.mem_cons.mp h with rfl | h
    · have := rf_at_pos B
      exact ⟨A', h1, by omega⟩
    · obtain ⟨t, t1, t2⟩ := vx_ty_el1 h2 h
      exact ⟨t, t1, by omega⟩
theorem wd_el_oc {th : Int → rf_N} {AR : Nat → List Int} (hg : ∀ m, vx_on (th m)) {e : Int → Int} {L x : Int} {A : rf_N} : ∀ {F : rf_N}, A ∈ vx_el F → wz_oc x (vx_val th AR A e L) → wz_oc x (vx_val th AR F e L)
  | .leaf, h, _ => absurd h List.not_mem_nil
  | .inner j q u F X, h, hx => by
    rw [vx_val_1 hg j q u F X e L, wz_sb_oc (vx_val_one hg j q u F e L)]
    rcases List.mem_cons.mp h with rfl | h
    · exact Or.inl hx
    · exact Or.inr (wd_el_oc hg h hx)
/-- a term on the pile -/
def wk_T (tv tc : Int → rf_T) (tm : Int → Int → rf_T) (S : vx_S) (th : Int → rf_N) (nC : Int) (bs : Nat) (a : List (Int × List Int)) (i : Nat) (A : rf_N) (c : List (Int × Int)) (L mk : Int) : Prop := True → (∃ lt t, vx_sd tv tc tm S lt L t A c ∧ wk_tb t ∧ ∀ l, 0 ≤ l → l < L → rf_at (lt l) ≤ 5) ∧ vx_c1 S bs A mk L 0 ∧ wk_c S A i ∧ wk_kc nC A ∧ ∀ x, wz_oc x (vx_val th S.2.2.2.2 A (dv_lk c) L) → x ∈ a.map Prod.fst
section
variable {tv tc : Int → rf_T} {tm : Int → Int → rf_T} {S : vx_S} {th : Int → rf_N} {nC : Int} {bs : Nat} {a : List (Int × List Int)} {i : Nat} {c : List (Int × Int)} {L mk : Int}
theorem wk_T_lam {j : Nat} {x : Int} {F : rf_N} (hF : vx_sg F) (h : wk_T tv tc tm S th nC bs a i (rf_n j 0 x F .leaf) c L mk) : wk_T tv tc tm S th nC bs a i F ((x, L) :: c) (L + 1) (mk + 1) := fun _ => by
  obtain ⟨⟨lt, t, s1, s2, s3⟩, c1, c2, c3, c4⟩ := h trivial
  obtain ⟨B, e, s1'⟩ := vx_sd_lam hF s1
  rw [e] at s2
  obtain ⟨s4, s5⟩ := s2
  refine ⟨⟨_, B, s1', s5, fun l l0 l1 => ?_⟩, vx_c1_lam c1, wk_c_lam c2, c3.2.1 vx_03, fun z hz => c4 z ?_⟩
  · show rf_at (if l = L then tv x else lt l) ≤ 5
    by_cases q : l = L
    · rw [if_pos q]
      exact s4
    · rw [if_neg q]
      exact s3 l l0 (by omega)
  · have ev : vx_val th S.2.2.2.2 (rf_n j 0 x F .leaf) (dv_lk c) L = .inner 0 (0, 0) () (vx_val th S.2.2.2.2 F (dv_lk ((x, L) :: c)) (L + 1)) .leaf := by
      rw [dv_lk_up, vx_val_in, if_pos rfl]
      rfl
    rw [ev, wz_oc_in, if_neg (by decide)]
    exact Or.inl hz
/-- the type that a head has is small -/
theorem wk_hd5 {j : Nat} {k h : Int} {F : rf_N} {lt : Int → rf_T} {t : rf_T} (hk : k = 1 ∨ k = 2) (htc : ∀ h, rf_at (tc h) ≤ 5) (s1 : vx_sd tv tc tm S lt L t (rf_n j k h F .leaf) c) (s3 : ∀ l, 0 ≤ l → l < L → rf_at (lt l) ≤ 5) : ∃ u, (vx_ty tv tc tm S.2.2.2.2 F).2 u ∧ rf_at u ≤ 5 := by
  obtain ⟨⟨_, _, ty⟩, _, ⟨L0, ck⟩, _⟩ := id (s1 trivial)
  rcases ty with ⟨q, _⟩ | ⟨_, _, q⟩ | ⟨q2, _, q⟩ | ⟨q, _⟩
  · have q' : k = 0 := q
    omega
  · exact ⟨_, q, htc h⟩
  · have q2' : k = 2 := q2
    subst q2'
    obtain ⟨v1, v2⟩ := vx_sd_var s1
    refine ⟨_, q, ?_⟩
    show rf_at (tv h) ≤ 5
    rw [v2]
    exact s3 _ v1 ((vx_ck_lk L0 ck).1 h).2
  · have q' : k = 3 := q
    omega
theorem wk_T_el {j : Nat} {k h : Int} {F A : rf_N} {i' : Nat} (hg : ∀ m, vx_on (th m)) (hk : k = 1 ∨ k = 2) (hh : 0 ≤ h) (htc : ∀ h, rf_at (tc h) ≤ 5) (hA : A ∈ vx_el F) (hi : i' ≤ i + rf_len F) (hT : wk_T tv tc tm S th nC bs a i (rf_n j k h F .leaf) c L mk) : wk_T tv tc tm S th nC bs a i' A c L mk := fun _ => by
  obtain ⟨⟨lt, t, s1, s2, s3⟩, c1, c2, c3, c4⟩ := hT trivial
  have h0 : k ≠ 0 := by omega
  have h3 : k ≠ 3 := by omega
  obtain ⟨u, u1, u2⟩ := wk_hd5 hk htc s1 s3
  obtain ⟨t', t1, t2⟩ := vx_ty_el1 u1 hA
  refine ⟨⟨lt, t', vx_sd_el h0 h3 hA t1 s1, wk_tb_5 (by omega), s3⟩, vx_c1_el h0 h3 hA (Nat.zero_le _) c1, wk_c_el h0 h3 hA hi c2, wk_kc_el hA (c3.2.1 h3), fun z hz => c4 z ?_⟩
  have ev : vx_val th S.2.2.2.2 (rf_n j k h F .leaf) (dv_lk c) L = .inner 0 (k, if k = 2 then dv_lk c h else h) () (vx_val th S.2.2.2.2 F (dv_lk c) L) .leaf := by
    rw [vx_val_in, if_neg h0, if_neg h3]
    rfl
  have hn : ¬ (k = 1 ∧ (if k = 2 then dv_lk c h else h) < 0) := fun cc => by
    obtain ⟨e1, e2⟩ := cc
    rw [if_neg (by omega)] at e2
    omega
  rw [ev, wz_oc_in, if_neg hn]
  exact Or.inl (wd_el_oc hg hA hz)
end
/-- all entries of the pile -/
def wk_en (tv tc : Int → rf_T) (tm : Int → Int → rf_T) (S : vx_S) (th : Int → rf_N) (nC : Int) (bs : Nat) (a : List (Int × List Int)) : List wk_I → Prop
  | [] => True
  | p :: r => (p.2 ≠ 2 → wk_T tv tc tm S th nC bs a r.length p.1.1.1 p.1.1.2 p.1.2.1 p.1.2.2) ∧ wk_en tv tc tm S th nC bs a r
theorem wk_en_wz {tv tc : Int → rf_T} {tm : Int → Int → rf_T} {S : vx_S} {th : Int → rf_N} {nC : Int} {bs : Nat} {a : List (Int × List Int)} {c : List (Int × Int)} {L mk : Int} {ws : List wk_I} (hks : wk_en tv tc tm S th nC bs a ws) {n : Nat} : ∀ {l : List rf_N}, l.length ≤ n → (∀ A ∈ l, ∀ i', i' + 1 ≤ ws.length + n → wk_T tv tc tm S th nC bs a i' A c L mk) → wk_en tv tc tm S th nC bs a (l.map (fun A => (((A, c), L, mk), 1)) ++ ws)
  | [], _, _ => hks
  | A :: l, hl, h => by
    rw [List.length_cons] at hl
    refine ⟨fun _ => h A List.mem_cons_self _ ?_, wk_en_wz hks (by omega) (fun B hB => h B (List.mem_cons_of_mem _ hB))⟩
    rw [show ∀ (x y : List wk_I), x.append y = x ++ y from fun _ _ => rfl, List.length_append, List.length_map]
    omega
/-- types of the open unknowns' ARGs -/
def wk_ht (tm : Int → Int → rf_T) (h : Int) : List rf_T := (List.range 4).map (fun i : Nat => tm (-1 - h) (i : Int))
theorem wk_ht_at {tm : Int → Int → rf_T} {m : Int} {k : Nat} (hk : k < 4) : (wk_ht tm (-1 - m)).getD k .leaf = tm m (k : Int) := by
  unfold wk_ht
  rw [List.getD_eq_getElem?_getD, List.getElem?_map, List.getElem?_range hk]
  show tm (-1 - (-1 - m)) (k : Int) = _
  rw [show -1 - (-1 - m) = m by omega]
def wk_E (nm : Int → List Int) (ht : Int → List rf_T) : we_E (List Int) := ((wb_E nm).1, (wb_E nm).2.1, ht, fun _ => .leaf, fun _ => [], fun _ => 0)
theorem wk_E_b (nm : Int → List Int) (ht : Int → List rf_T) (l : List Int) (a : List (Int × List Int)) (o : List Int) : we_b (wk_E nm ht) l (a, o) = (a, o ++ l) := wk_bs l (a, o)
/-- what holds while it writes -/
def wk_X (tv tc : Int → rf_T) (n0 : Int) (Qs : (Int → rf_N) → Prop) (th : Int → rf_N) (rk : Int → Nat) (nm : Int → List Int) (u : sx_S) (S : vx_S) (PR : Int → List (Int × Int)) (tm : Int → Int → rf_T) (a : List (Int × List Int)) : Prop := True → dv_G tv tc n0 Qs u S PR tm [] [] ∧ wd_N u S a ∧ (vx_So S th ∧ (∀ m, S.2.2.2.1 m = none → th m = vx_gn S.2.2.1 m) ∧ vx_rk S rk) ∧ (∀ m B e, S.2.2.2.1 m = some (B, e) → vx_ha B ≤ 84 ∧ wk_kc (u.1 19 2) B) ∧ (∀ h, 0 ≤ h → h < u.1 19 2 → wk_Nm u h ∧ nm h = wk_nm u h) ∧ (∀ v, rf_at (tv v) ≤ 5 → (0 ≤ v ∧ v < u.1 11 8) ∧ wk_ty u (tv v) (u.2.1 17 v.toNat)) ∧ ∀ h, rf_at (tc h) ≤ 5
/-- what writing leaves -/
def wk_fr (s u : sx_S) : Prop := True → cx_F [(29, 33), (55, 62), (65, 65)] s u ∧ (∀ k, k ≠ 7 → k ≠ 8 → u.1 33 k = s.1 33 k) ∧ ∀ k, k ≠ 10 → u.1 55 k = s.1 55 k
theorem wk_fr_refl (s : sx_S) : wk_fr s s := fun _ => ⟨cx_F_refl _ _, fun _ _ _ => rfl, fun _ _ => rfl⟩
theorem wk_fr_t {s u t : sx_S} (h1 : wk_fr s u) (h2 : wk_fr u t) : wk_fr s t := fun _ => by
  obtain ⟨a1, a2, a3⟩ := h1 trivial
  obtain ⟨b1, b2, b3⟩ := h2 trivial
  exact ⟨cx_F_step b1 rfl a1, fun k k7 k8 => (b2 k k7 k8).trans (a2 k k7 k8), fun k k10 => (b3 k k10).trans (a3 k k10)⟩
theorem wk_fr_F {s u : sx_S} {W : List (Nat × Nat)} (h : cx_F W s u) (hw : cx_le W [(29, 33), (55, 62), (65, 65)] = true ∧ cx_outb W 33 = true ∧ cx_outb W 55 = true) : wk_fr s u := fun _ => ⟨cx_F_step h hw.1 (cx_F_refl _ _), fun k _ _ => congrFun (h.same 33 hw.2.1).1 k, fun k _ => congrFun (h.same 55 hw.2.2).1 k⟩
theorem wk_fr_p {s t : sx_S} {l : List Int} (h : wk_PT s t l) : wk_fr s t := fun _ => ⟨cx_F_step h.2.1 rfl (cx_F_refl _ _), fun k _ _ => congrFun (h.2.1.same 33 rfl).1 k, h.2.2.1⟩
theorem wk_fr_sl {s t : sx_S} (h : cx_F [(29, 33)] s t) (h33 : ∀ k, k ≠ 7 → k ≠ 8 → t.1 33 k = s.1 33 k) : wk_fr s t := fun _ => ⟨cx_F_step h rfl (cx_F_refl _ _), h33, fun k _ => congrFun (h.same 55 rfl).1 k⟩
/-- all of writing: the root that is written changes too -/
def wk_fw (s u : sx_S) : Prop := True → cx_F [(29, 33), (55, 62), (65, 65)] s u ∧ (∀ k, k ≠ 7 → k ≠ 8 → u.1 33 k = s.1 33 k) ∧ ∀ k, k ≠ 10 → k ≠ 11 → u.1 55 k = s.1 55 k
theorem wk_fw_of {s u : sx_S} (h : wk_fr s u) : wk_fw s u := fun _ => by
  obtain ⟨a1, a2, a3⟩ := h trivial
  exact ⟨a1, a2, fun k k10 _ => a3 k k10⟩
theorem wk_fw_t {s u t : sx_S} (h1 : wk_fw s u) (h2 : wk_fw u t) : wk_fw s t := fun _ => by
  obtain ⟨a1, a2, a3⟩ := h1 trivial
  obtain ⟨b1, b2, b3⟩ := h2 trivial
  exact ⟨cx_F_step b1 rfl a1, fun k k7 k8 => (b2 k k7 k8).trans (a2 k k7 k8), fun k k10 k11 => (b3 k k10 k11).trans (a3 k k10 k11)⟩
theorem wk_Dp_c {s u : sx_S} {o : List Int} (h1 : u.1 55 10 = s.1 55 10) (h2 : u.2.1 65 = s.2.1 65) (h : wb_Dp s o) : wb_Dp u o := by
  unfold wb_Dp at h ⊢
  rw [h1, h2]
  exact h
theorem wk_X_fw {tv tc : Int → rf_T} {n0 : Int} {Qs : (Int → rf_N) → Prop} {th : Int → rf_N} {rk : Int → Nat} {nm : Int → List Int} {s u : sx_S} {S : vx_S} {PR : Int → List (Int × Int)} {tm : Int → Int → rf_T} {a : List (Int × List Int)} (h : wk_X tv tc n0 Qs th rk nm s S PR tm a) (hI : cx_I u) (hf : wk_fw s u) : wk_X tv tc n0 Qs th rk nm u S PR tm a := fun _ => by
  obtain ⟨hG, hN, hS, hB, hnm, hty, htc⟩ := h trivial
  obtain ⟨g1, g2, g3, g4, ⟨_, g6⟩, g7, g8⟩ := hG trivial
  obtain ⟨hF, h33, h55⟩ := hf trivial
  have nf : dv_nf (s.1 11 6) S.2.2.2.2 S.2.2.2.2 s u := dv_nf_F _ hF (by decide)
  have e19 : u.1 19 = s.1 19 := (hF.same 19 rfl).1
  have e20 : u.2.1 20 = s.2.1 20 := (hF.same 20 rfl).2
  have e2 : u.1 2 = s.1 2 := (hF.same 2 rfl).1
  have e3 : u.2.1 3 = s.2.1 3 := (hF.same 3 rfl).2
  have e5 : u.2.1 5 = s.2.1 5 := (hF.same 5 rfl).2
  have e6 : u.2.1 6 = s.2.1 6 := (hF.same 6 rfl).2
  have e11 : u.1 11 = s.1 11 := (hF.same 11 rfl).1
  have e17 : u.2.1 17 = s.2.1 17 := (hF.same 17 rfl).2
  refine ⟨fun _ => ⟨hI, dv_M_fr (Int.le_refl _) (by rw [e11]) nf (h33 6 (by decide) (by decide)) (hF.same 34 rfl).2 (hF.same 35 rfl).2 (hF.same 36 rfl).2 (hF.same 37 rfl).2 g2, g3, g4, ⟨trivial, by rw [(hF.same 39 rfl).1]; exact g6⟩, g7, g8⟩, wd_N_same (h55 8 (by decide) (by decide)) (hF.same 63 rfl).2 (hF.same 64 rfl).2 hN, hS, by rw [e19]; exact hB, fun x x0 x1 => ?_, fun v hv => ?_, htc⟩
  · obtain ⟨n1, n2⟩ := hnm x x0 (by rw [e19] at x1; exact x1)
    refine ⟨fun _ => ?_, ?_⟩
    · have n1' := n1 trivial
      rw [e19, e20, e2, e5, e6]
      exact n1'
    · unfold wk_nm at n2 ⊢
      rw [e20, e3, e5, e6]
      exact n2
  · obtain ⟨v1, v2⟩ := hty v hv
    rw [e11, e17]
    exact ⟨v1, wk_ty_c (by rw [(hF.same 8 rfl).1]) (hF.same 9 rfl).2 (hF.same 10 rfl).2 v2⟩
theorem wk_X_fr {tv tc : Int → rf_T} {n0 : Int} {Qs : (Int → rf_N) → Prop} {th : Int → rf_N} {rk : Int → Nat} {nm : Int → List Int} {s u : sx_S} {S : vx_S} {PR : Int → List (Int × Int)} {tm : Int → Int → rf_T} {a : List (Int × List Int)} (h : wk_X tv tc n0 Qs th rk nm s S PR tm a) (hI : cx_I u) (hf : wk_fr s u) : wk_X tv tc n0 Qs th rk nm u S PR tm a := wk_X_fw h hI (wk_fw_of hf)
/-- whether an ARG is put in brackets -/
theorem wk_bk {S : vx_S} {th : Int → rf_N} (hg : ∀ m, vx_on (th m)) (hop : ∀ m, S.2.2.2.1 m = none → th m = vx_gn S.2.2.1 m) {j : Nat} {k h : Int} {F : rf_N} {e : Int → Int} {L : Int} (h3 : k = 3 → S.2.2.2.1 h = none ∧ S.2.2.1 h = (rf_len F : Int)) : we_bk (vx_val th S.2.2.2.2 (rf_n j k h F .leaf) e L) ↔ k = 0 ∨ rf_len F ≠ 0 := by
  rw [we_bk_val hg]
  by_cases c : k = 3
  · obtain ⟨a1, a2⟩ := h3 c
    have lv : rf_len (vx_vs (rf_len F) 0) = rf_len F := by
      have := (wz_vs (rf_len F) 0).2.1
      rw [dz_hs_len] at this
      exact this
    have eb : we_bk (th h) ↔ rf_len F ≠ 0 := by
      rw [hop h a1]
      unfold vx_gn
      rw [a2, Int.toNat_natCast]
      show (1 : Int) = 0 ∨ rf_len (vx_vs (rf_len F) 0) ≠ 0 ↔ _
      rw [lv]
      exact ⟨fun q => q.elim (fun q => absurd q (by decide)) id, Or.inr⟩
    show k = 0 ∨ (k = 3 ∧ we_bk (th h)) ∨ (k ≠ 3 ∧ rf_len F ≠ 0) ↔ _
    rw [eb]
    exact ⟨fun q => q.elim Or.inl (fun q => q.elim (fun q => Or.inr q.2) (fun q => Or.inr q.2)), fun q => q.elim Or.inl (fun q => Or.inr (Or.inl ⟨c, q⟩))⟩
  · show k = 0 ∨ (k = 3 ∧ we_bk (th h)) ∨ (k ≠ 3 ∧ rf_len F ≠ 0) ↔ _
    exact ⟨fun q => q.elim Or.inl (fun q => q.elim (fun q => absurd q.1 c) (fun q => Or.inr q.2)), fun q => q.elim Or.inl (fun q => Or.inr (Or.inr ⟨c, q⟩))⟩
