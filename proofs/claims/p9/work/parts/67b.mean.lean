/-! ===== the desk's checker: what it works on; what a NAME means ===== -/
/-- the checker's surroundings -/
def dz_E (b : Nat → Int) (n : Int) (C M : List (Int × qx_T)) (s : sx_S) : Prop := True → dz_TN b n s ∧ dz_DL 19 20 21 s C ∧ dz_DL 22 23 24 s M ∧ (dx_TI s ∧ 2 ≤ s.1 8 2) ∧ (∀ q ∈ C, qx_at q.2 ≤ 5) ∧ (∀ q ∈ M, qx_at q.2 ≤ 5)
/-- what is bound: tokens, numbers, types -/
def dz_SC (s : sx_S) (Γ : List (Int × qx_T)) (ρ : List Int) : Prop := True → ((Γ.length : Int) = s.1 18 9 ∧ ρ.length = Γ.length) ∧ (∀ k : Nat, k < Γ.length → ∃ e, Γ[Γ.length - 1 - k]? = some e ∧ s.2.1 27 k = e.1 ∧ (0 ≤ e.1 ∧ e.1 < s.1 2 5) ∧ s.2.1 28 k = px_id ρ k ∧ dx_is s e.2 (s.2.1 17 (px_id ρ k).toNat)) ∧ (∀ w ∈ ρ, 0 ≤ w ∧ w < s.1 11 8) ∧ px_so ρ ∧ (∀ q ∈ Γ, qx_at q.2 ≤ 5)
/-- what the checker's work leaves; nodes below lo stay -/
def dz_G (lo : Int) (s t : sx_S) : Prop := True → (cx_I t ∧ cx_F [(8, 18), (27, 28)] s t) ∧ dz_f [11, 12, 13, 14] s t ∧ (dx_TI t ∧ dx_tu s t) ∧ dz_fr (fun j => (j : Int) < lo) s t ∧ (s.1 11 8 ≤ t.1 11 8 ∧ ∀ j : Nat, (j : Int) < s.1 11 8 → t.2.1 17 j = s.2.1 17 j) ∧ (∀ k : Nat, (k : Int) < s.1 18 9 → t.2.1 27 k = s.2.1 27 k ∧ t.2.1 28 k = s.2.1 28 k)
theorem dz_G_t {lo : Int} {s t u : sx_S} (h2 : dz_G lo t u) (h1 : dz_G lo s t) : dz_G lo s u := fun _ => by
  obtain ⟨⟨a1, a2⟩, a3, ⟨a4, a5⟩, a6, ⟨a7, a8⟩, a9⟩ := h1 trivial
  obtain ⟨⟨b1, b2⟩, b3, ⟨b4, b5⟩, b6, ⟨b7, b8⟩, b9⟩ := h2 trivial
  have e9 : t.1 18 9 = s.1 18 9 := a3 9 rfl
  refine ⟨⟨b1, cx_F_step b2 rfl a2⟩, fun k hk => (b3 k hk).trans (a3 k hk), ⟨b4, dx_tu_trans b5 a5⟩, dz_fr_t b6 a6 (fun _ q => q), ⟨by omega, fun j hj => (b8 j (by omega)).trans (a8 j hj)⟩, fun k hk => ?_⟩
  obtain ⟨c1, c2⟩ := a9 k hk
  obtain ⟨d1, d2⟩ := b9 k (by omega)
  exact ⟨d1.trans c1, d2.trans c2⟩
theorem dz_G_lo {lo lo' : Int} {s t : sx_S} (h : dz_G lo s t) (hl : lo' ≤ lo) : dz_G lo' s t := fun _ => by
  obtain ⟨a1, a3, a4, a6, a7, a9⟩ := h trivial
  exact ⟨a1, a3, a4, dz_fr_w a6 (fun j hj => by omega), a7, a9⟩
theorem dx_TI_c {s t : sx_S} (h : dx_TI s) (h8 : t.1 8 2 = s.1 8 2) (h9 : t.2.1 9 = s.2.1 9) (h10 : t.2.1 10 = s.2.1 10) : dx_TI t := fun i j a1 a2 a3 a4 a5 a6 => by
  rw [h9] at a5
  rw [h10] at a6
  rw [h8] at a2 a4
  exact h i j a1 a2 a3 a4 a5 a6
theorem dx_tu_c {s t : sx_S} (h8 : t.1 8 2 = s.1 8 2) (h9 : t.2.1 9 = s.2.1 9) (h10 : t.2.1 10 = s.2.1 10) : dx_tu s t := fun j => ⟨by omega, fun _ => by rw [h9, h10]; exact ⟨rfl, rfl⟩⟩
/-- work on terms alone -/
theorem dz_G_11 {lo : Int} {s t : sx_S} (hI : cx_I t) (hF : cx_F [(11, 17)] s t) (hT : dx_TI s) (hfr : dz_fr (fun j => (j : Int) < lo) s t) (hv : s.1 11 8 ≤ t.1 11 8 ∧ ∀ j : Nat, (j : Int) < s.1 11 8 → t.2.1 17 j = s.2.1 17 j) : dz_G lo s t := fun _ => by
  have e8 : t.1 8 2 = s.1 8 2 := congrFun (hF.same 8 rfl).1 2
  refine ⟨⟨hI, cx_F_step hF rfl (cx_F_refl _ _)⟩, fun k _ => congrFun (hF.same 18 rfl).1 k, ⟨dx_TI_c hT e8 (hF.same 9 rfl).2 (hF.same 10 rfl).2, dx_tu_c e8 (hF.same 9 rfl).2 (hF.same 10 rfl).2⟩, hfr, hv, fun k _ => ?_⟩
  rw [(hF.same 27 rfl).2, (hF.same 28 rfl).2]
  exact ⟨rfl, rfl⟩
/-- work on types alone -/
theorem dz_G_8 {lo : Int} {s t : sx_S} (hI : cx_I t) (hF : cx_F [(8, 10), (18, 18)] s t) (hf : dz_f [11, 12, 13, 14] s t) (hT : dx_TI t) (hu : dx_tu s t) : dz_G lo s t := fun _ => by
  have e6 : t.1 11 6 = s.1 11 6 := congrFun (hF.same 11 rfl).1 6
  have e8 : t.1 11 8 = s.1 11 8 := congrFun (hF.same 11 rfl).1 8
  refine ⟨⟨hI, cx_F_step hF rfl (cx_F_refl _ _)⟩, hf, ⟨hT, hu⟩, fun _ => ⟨by omega, fun j _ => ?_⟩, ⟨by omega, fun j _ => ?_⟩, fun k _ => ?_⟩
  · rw [(hF.same 12 rfl).2, (hF.same 13 rfl).2, (hF.same 14 rfl).2, (hF.same 15 rfl).2, (hF.same 16 rfl).2]
    exact ⟨rfl, rfl, rfl, rfl, rfl⟩
  · rw [(hF.same 17 rfl).2]
  · rw [(hF.same 27 rfl).2, (hF.same 28 rfl).2]
    exact ⟨rfl, rfl⟩
theorem dz_f_uf {s : sx_S} {k : Nat} {v : Int} (hk : [11, 12, 13, 14].contains k = true) : dz_f [11, 12, 13, 14] s (sx_uf s.1 18 k v, s.2) := fun k' hk' => by
  show sx_uf s.1 18 k v 18 k' = _
  rw [sx_uf_if]
  refine if_neg (fun c => ?_)
  rw [c.2, hk] at hk'
  exact absurd hk' (by decide)
theorem dz_G_uf {lo : Int} {s : sx_S} {k : Nat} {v : Int} (hI : cx_I (sx_uf s.1 18 k v, s.2)) (hT : dx_TI s) (hk : [11, 12, 13, 14].contains k = true) : dz_G lo s (sx_uf s.1 18 k v, s.2) := dz_G_8 hI (cx_F_uf rfl (cx_F_refl _ _)) (dz_f_uf hk) (fun i j => hT i j) (fun j => dx_tu_refl s j)
theorem dz_G_I {lo : Int} {s t : sx_S} (h : dz_G lo s t) : cx_I t := (h trivial).1.1
theorem dz_G_T {lo : Int} {s t : sx_S} (h : dz_G lo s t) : dx_TI t := (h trivial).2.2.1.1
theorem dz_G_is {lo : Int} {s t : sx_S} {x : qx_T} {z : Int} (h : dz_G lo s t) (hx : dx_is s x z) : dx_is t x z := dx_is_up hx (h trivial).2.2.1.2
theorem dz_DL_G {lo : Int} {s t : sx_S} {o p q : Nat} {L : List (Int × qx_T)} (h : dz_G lo s t) (ho : cx_outb [(8, 18), (27, 28)] o = true) (hp : cx_outb [(8, 18), (27, 28)] p = true) (hq : cx_outb [(8, 18), (27, 28)] q = true) (hL : dz_DL o p q s L) : dz_DL o p q t L := fun _ => by
  obtain ⟨l1, l2⟩ := hL trivial
  have hF := (h trivial).1.2
  refine ⟨by rw [(hF.same o ho).1]; exact l1, fun k hk => ?_⟩
  obtain ⟨e, e1, e2, e3, e4⟩ := l2 k hk
  refine ⟨e, e1, by rw [(hF.same p hp).2]; exact e2, by rw [(hF.same 2 rfl).1]; exact e3, ?_⟩
  rw [(hF.same q hq).2]
  exact dz_G_is h e4
theorem dz_E_G {lo : Int} {b : Nat → Int} {n : Int} {C M : List (Int × qx_T)} {s t : sx_S} (hE : dz_E b n C M s) (h : dz_G lo s t) : dz_E b n C M t := fun _ => by
  obtain ⟨e1, e2, e3, ⟨e4, e5⟩, e6, e7⟩ := hE trivial
  have hF := (h trivial).1.2
  have hu := ((h trivial).2.2.1.2 0).1
  refine ⟨fun _ => ?_, dz_DL_G h rfl rfl rfl e2, dz_DL_G h rfl rfl rfl e3, ⟨dz_G_T h, by omega⟩, e6, e7⟩
  obtain ⟨a1, a2, a3⟩ := e1 trivial
  exact ⟨(hF.same 3 rfl).2.trans a1, (congrFun (hF.same 2 rfl).1 4).trans a2, px_TK_F hF rfl rfl rfl rfl a3⟩
theorem dz_SC_G {lo : Int} {Γ : List (Int × qx_T)} {ρ : List Int} {s t : sx_S} (hS : dz_SC s Γ ρ) (h : dz_G lo s t) : dz_SC t Γ ρ := fun _ => by
  obtain ⟨⟨s1, s2⟩, s3, s4, s5, s6⟩ := hS trivial
  obtain ⟨⟨a1, a2⟩, a3, ⟨a4, a5⟩, a6, ⟨a7, a8⟩, a9⟩ := h trivial
  have e9 : t.1 18 9 = s.1 18 9 := a3 9 rfl
  refine ⟨⟨by omega, s2⟩, fun k hk => ?_, fun w hw => ?_, s5, s6⟩
  · obtain ⟨e, e1, e2, e3, e4, e5⟩ := s3 k hk
    obtain ⟨c1, c2⟩ := a9 k (by omega)
    have hw := s4 _ (px_id_mem (ρ := ρ) (l := k) (by omega))
    refine ⟨e, e1, c1.trans e2, by rw [(a2.same 2 rfl).1]; exact e3, c2.trans e4, ?_⟩
    rw [a8 _ (by omega)]
    exact dz_G_is h e5
  · have := s4 w hw
    omega

theorem px_vr_e {SN : Int → Int → Prop} {a : Int} : ∀ {Γ : List (Int × qx_T)} {k : Nat} {x : qx_T}, px_vr SN Γ a k x → ∃ q ∈ Γ, q.2 = x
  | [], _, _, h => h.elim
  | q :: Γ, _, _, h => by
    rcases h with ⟨_, _, h⟩ | ⟨_, h⟩
    · exact ⟨q, List.mem_cons_self, h.symm⟩
    · obtain ⟨e, e1, e2⟩ := px_vr_e h
      exact ⟨e, List.mem_cons_of_mem _ e1, e2⟩
theorem px_cf_e {SN : Int → Int → Prop} {a : Int} : ∀ {Γ : List (Int × qx_T)} {k : Nat} {x : qx_T}, px_cf SN Γ a k x → ∃ q, Γ[k]? = some q ∧ q.2 = x
  | [], _, _, h => h.elim
  | q :: Γ, _, _, h => by
    rcases h with ⟨_, h1, h⟩ | ⟨_, j, h1, h⟩
    · rw [h1]
      exact ⟨q, rfl, h.symm⟩
    · obtain ⟨e, e1, e2⟩ := px_cf_e h
      rw [h1]
      exact ⟨e, e1, e2⟩
/-- what meaning leaves: a new node -/
def dz_mn (b : Nat → Int) (n : Int) (C M Γ : List (Int × qx_T)) (ρ : List Int) (a0 : Int) (s t : sx_S) (k h : Int) (i : Nat) (u : qx_T) : Prop := True → px_hd (px_SN b n) C M Γ a0 k i u ∧ ((k = 2 → h = px_id ρ i) ∧ (k ≠ 2 → h = (i : Int))) ∧ (0 ≤ h ∧ 1 ≤ k) ∧ dz_G (s.1 11 6) s t ∧ dx_is t u (t.1 18 12) ∧ (t.1 11 6 = s.1 11 6 + 1 ∧ t.1 11 8 = s.1 11 8 ∧ t.1 8 2 = s.1 8 2 ∧ t.1 18 11 = s.1 18 11) ∧ dz_T (s.1 11 6) t (rf_n (s.1 11 6).toNat k h .leaf .leaf) (s.1 11 6) ∧ qx_at u ≤ 5
theorem dz_mn_mk {b : Nat → Int} {n : Int} {C M Γ : List (Int × qx_T)} {ρ : List Int} {a0 v k h : Int} {s t : sx_S} {i : Nat} {u : qx_T} (hI : cx_I s) (hT : dx_TI s) (h2 : 2 ≤ s.1 8 2) (hd : px_hd (px_SN b n) C M Γ a0 k i u) (hi : (k = 2 → h = px_id ρ i) ∧ (k ≠ 2 → h = (i : Int))) (hh : 0 ≤ h ∧ 1 ≤ k) (hv : dx_is s u v) (h5 : qx_at u ≤ 5) (t1 : cx_I t) (t2 : cx_F [(11, 17)] (sx_uf s.1 18 12 v, s.2) t) (t3 : dz_N1 k h (-1) (sx_uf s.1 18 12 v, s.2) t) : dz_mn b n C M Γ ρ a0 s t k h i u := fun _ => by
  have h0 := hI.fld 11 6 (by decide) rfl
  have h8 := hI.fld 8 2 (by decide) rfl
  have hr := dx_rng hv h2
  have hI' : cx_I (sx_uf s.1 18 12 v, s.2) := cx_I_uf rfl rfl hI (by omega) (by omega)
  have g1 : dz_G (s.1 11 6) s (sx_uf s.1 18 12 v, s.2) := dz_G_uf hI' hT rfl
  have hT' : dx_TI (sx_uf s.1 18 12 v, s.2) := dz_G_T g1
  obtain ⟨n1, n2, n3, _⟩ := t3 trivial
  have n1' : t.1 11 6 = s.1 11 6 + 1 := n1
  have n2' : t.1 11 8 = s.1 11 8 := n2
  have n3' : t.2.1 17 = s.2.1 17 := n3
  have g2 : dz_G (s.1 11 6) (sx_uf s.1 18 12 v, s.2) t := dz_G_11 t1 t2 hT' (dz_fr_N1 t3) ⟨by show s.1 11 8 ≤ _; omega, fun j _ => congrFun n3' j⟩
  have e12 : t.1 18 12 = v := (congrFun (t2.same 18 rfl).1 12).trans (px_us s.1 18 12 v)
  have hT0 := dz_T_new t3 h0.1 (by omega) hh.1
  refine ⟨hd, hi, hh, dz_G_t g2 g1, ?_, ⟨n1', n2', congrFun (t2.same 8 rfl).1 2, congrFun (t2.same 18 rfl).1 11⟩, hT0, h5⟩
  rw [e12]
  exact dz_G_is g2 (dz_G_is g1 hv)

theorem w_dz_ntC {CALL : sx_Ca} {sL : Nat} {sx : Nat → Int32} {Q : Nat → sx_L → sx_S → Prop} {R : Int → sx_S → Prop} {s : sx_S} {a0 : Int} (hI : cx_I s) (p0 : (-2147483648 ≤ a0 ∧ a0 ≤ 2147483647)) (hK : ∀ z : Int, (0 ≤ a0 → a0 < s.1 19 2 → z = s.2.1 21 a0.toNat) → R z s) : sx_wp true sL sx eX4_type CALL [] Q R 400 0 (sx_argsF 0 [.inr (.inl 19), .inl a0]) [] s := by
  repeat' (first | (with_reducible (rintro _ rfl)) | (with_reducible intro _) | (refine And.intro ?_ ?_) | (refine hK _ ?_))
  all_goals (try dsimp only)
  repeat' (first | (with_reducible assumption) | ((with_reducible (change cx_I (sx_uf _ _ _ _, _))); refine cx_I_uf rfl rfl ?_ ?_ ?_) | ((with_reducible (change cx_I (_, sx_ua _ _ _ _, _))); refine cx_I_ua rfl rfl ?_ ?_ ?_) | ((with_reducible (change cx_I (_, sx_ua _ 16 _ _, _))); refine cx_I_ari ?_ ?_ ?_) | ((with_reducible (change cx_I (sx_uf _ 11 6 _, _))); refine cx_I_ufA rfl ?_ ?_ ?_ ?_) | (with_reducible exact cx_F_refl _ _) | ((with_reducible (change cx_F _ _ (sx_uf _ _ _ _, _))); refine cx_F_uf rfl ?_) | ((with_reducible (change cx_F _ _ (_, sx_ua _ _ _ _, _))); refine cx_F_ua rfl ?_) | ((with_reducible (change cx_I (_, sx_cpy _ _ _ _ _ _, _))); refine cx_I_cpy rfl rfl rfl (by decide) ?_) | ((with_reducible (change cx_F _ _ (_, sx_cpy _ _ _ _ _ _, _))); refine cx_F_cpy rfl ?_) | ((with_reducible (change cx_F _ _ _)); refine cx_F_step (by assumption) rfl ?_) | fail)
  all_goals (try dsimp only at *)
  all_goals (first | trivial | omega | rfl | (intros; omega) | (intros; rfl) | skip)

theorem c_dz_ntC {sL : Nat} {sx : Nat → Int32} (hsL : sL ≤ 3072) (d : Nat) (hd : 2 ≤ d) : ∀ (a0 : Int) (s : sx_S) (K : Int → sx_S → Prop), cx_I s → (-2147483648 ≤ a0 ∧ a0 ≤ 2147483647) → (∀ z : Int, (0 ≤ a0 → a0 < s.1 19 2 → z = s.2.1 21 a0.toNat) → K z s) → sx_C sL sx d 56 [.inr (.inl 19), .inl a0] s K := by
  intro a0 s K hI p0 hK
  obtain ⟨d, rfl⟩ : ∃ e, d = e + 2 := ⟨d - 2, by omega⟩
  exact sx_meth (wr := true) (n := 400) hsL (e := eX4_type) rfl (w_dz_ntC (Q := fun _ _ _ => False)  hI p0 hK)

theorem w_dz_ntM {CALL : sx_Ca} {sL : Nat} {sx : Nat → Int32} {Q : Nat → sx_L → sx_S → Prop} {R : Int → sx_S → Prop} {s : sx_S} {a0 : Int} (hI : cx_I s) (p0 : (-2147483648 ≤ a0 ∧ a0 ≤ 2147483647)) (hK : ∀ z : Int, (0 ≤ a0 → a0 < s.1 22 2 → z = s.2.1 24 a0.toNat) → R z s) : sx_wp true sL sx eX4_type CALL [] Q R 400 0 (sx_argsF 0 [.inr (.inl 22), .inl a0]) [] s := by
  repeat' (first | (with_reducible (rintro _ rfl)) | (with_reducible intro _) | (refine And.intro ?_ ?_) | (refine hK _ ?_))
  all_goals (try dsimp only)
  repeat' (first | (with_reducible assumption) | ((with_reducible (change cx_I (sx_uf _ _ _ _, _))); refine cx_I_uf rfl rfl ?_ ?_ ?_) | ((with_reducible (change cx_I (_, sx_ua _ _ _ _, _))); refine cx_I_ua rfl rfl ?_ ?_ ?_) | ((with_reducible (change cx_I (_, sx_ua _ 16 _ _, _))); refine cx_I_ari ?_ ?_ ?_) | ((with_reducible (change cx_I (sx_uf _ 11 6 _, _))); refine cx_I_ufA rfl ?_ ?_ ?_ ?_) | (with_reducible exact cx_F_refl _ _) | ((with_reducible (change cx_F _ _ (sx_uf _ _ _ _, _))); refine cx_F_uf rfl ?_) | ((with_reducible (change cx_F _ _ (_, sx_ua _ _ _ _, _))); refine cx_F_ua rfl ?_) | ((with_reducible (change cx_I (_, sx_cpy _ _ _ _ _ _, _))); refine cx_I_cpy rfl rfl rfl (by decide) ?_) | ((with_reducible (change cx_F _ _ (_, sx_cpy _ _ _ _ _ _, _))); refine cx_F_cpy rfl ?_) | ((with_reducible (change cx_F _ _ _)); refine cx_F_step (by assumption) rfl ?_) | fail)
  all_goals (try dsimp only at *)
  all_goals (first | trivial | omega | rfl | (intros; omega) | (intros; rfl) | skip)

theorem c_dz_ntM {sL : Nat} {sx : Nat → Int32} (hsL : sL ≤ 3072) (d : Nat) (hd : 2 ≤ d) : ∀ (a0 : Int) (s : sx_S) (K : Int → sx_S → Prop), cx_I s → (-2147483648 ≤ a0 ∧ a0 ≤ 2147483647) → (∀ z : Int, (0 ≤ a0 → a0 < s.1 22 2 → z = s.2.1 24 a0.toNat) → K z s) → sx_C sL sx d 56 [.inr (.inl 22), .inl a0] s K := by
  intro a0 s K hI p0 hK
  obtain ⟨d, rfl⟩ : ∃ e, d = e + 2 := ⟨d - 2, by omega⟩
  exact sx_meth (wr := true) (n := 400) hsL (e := eX4_type) rfl (w_dz_ntM (Q := fun _ _ _ => False)  hI p0 hK)

theorem w_mg {CALL : sx_Ca} {sL : Nat} {sx : Nat → Int32} {Q : Nat → sx_L → sx_S → Prop} {R : Int → sx_S → Prop} {s : sx_S} {a0 : Int} (hI : cx_I s) (hQ : ∀ x2, x2 = s.1 18 9 - 1 → Q 15 [(0, .inr (.inl 18)), (1, .inl a0), (2, .inl x2)] s) : sx_wp true sL sx eX1_meaning CALL [(15, [0, 1, 2])] Q R 400 0 (sx_argsF 0 [.inr (.inl 18), .inl a0]) [] s := by
  have h9 := hI.fld 18 9 (by decide) rfl
  repeat' (first | (with_reducible (rintro _ rfl)) | (with_reducible intro _) | (refine And.intro ?_ ?_) | (refine hQ _ ?_))
  all_goals (try dsimp only at *)
  all_goals (first | trivial | assumption | omega | (simp only [sx_w_t] at *; omega) | skip)
theorem w_mg_15 {CALL : sx_Ca} {sL : Nat} {sx : Nat → Int32} {Q : Nat → sx_L → sx_S → Prop} {R : Int → sx_S → Prop} {b : Nat → Int} {n : Int} {C M : List (Int × qx_T)} (h_dx_sn : ∀ (a0 a1 : Int) (s : sx_S) (K : Int → sx_S → Prop), cx_I s → (0 ≤ a0 ∧ a0 ≤ 239) → (0 ≤ a1 ∧ a1 ≤ 239) → (a0 < s.1 2 5 ∧ a1 < s.1 2 5) → (dz_TN b n s) → (∀ z : Int, (z = 0 ∨ z = 1) → (z ≠ 0 → px_SN b n a0 a1) → (z = 0 → ¬ px_SN b n a0 a1) → K z s) → CALL 105 [.inr (.inl 2), .inl a0, .inl a1] s K) (h_vt : ∀ (a0 : Int) (s : sx_S) (K : Int → sx_S → Prop), cx_I s → (-2147483648 ≤ a0 ∧ a0 ≤ 2147483647) → (∀ z : Int, (0 ≤ a0 → a0 < s.1 11 8 → z = s.2.1 17 a0.toNat) → K z s) → CALL 87 [.inr (.inl 11), .inl a0] s K) (h_node : ∀ (a0 a1 : Int) (s : sx_S) (R : Int → sx_S → Prop), cx_I s → s.1 11 6 < 1024 → (-2147483648 ≤ a0 ∧ a0 ≤ 2147483647) → (-2147483648 ≤ a1 ∧ a1 ≤ 2147483647) → (∀ t, cx_I t → cx_F [(11, 17)] s t → dz_N1 a0 a1 (-1) s t → R (s.1 11 6) t) → CALL 88 [.inr (.inl 11), .inl a0, .inl a1] s R) (h_dx_findC : ∀ (a0 : Int) (s : sx_S) (K : Int → sx_S → Prop), cx_I s → (0 ≤ a0 ∧ a0 ≤ 239) → (dz_TN b n s) → (a0 < s.1 2 5) → (dz_DL 19 20 21 s C) → (∀ z : Int, (-1 ≤ z ∧ z ≤ 7) → (z = -1 → px_nv (px_SN b n) C a0) → (z ≠ -1 → (0 ≤ z ∧ z < s.1 19 2) ∧ ∃ x, px_cf (px_SN b n) C a0 z.toNat x) → K z s) → CALL 54 [.inr (.inl 19), .inr (.inl 2), .inl a0] s K) (h_dx_findM : ∀ (a0 : Int) (s : sx_S) (K : Int → sx_S → Prop), cx_I s → (0 ≤ a0 ∧ a0 ≤ 239) → (dz_TN b n s) → (a0 < s.1 2 5) → (dz_DL 22 23 24 s M) → (∀ z : Int, (-1 ≤ z ∧ z ≤ 4) → (z = -1 → px_nv (px_SN b n) M a0) → (z ≠ -1 → (0 ≤ z ∧ z < s.1 22 2) ∧ ∃ x, px_cf (px_SN b n) M a0 z.toNat x) → K z s) → CALL 54 [.inr (.inl 22), .inr (.inl 2), .inl a0] s K) (h_dz_ntC : ∀ (a0 : Int) (s : sx_S) (K : Int → sx_S → Prop), cx_I s → (-2147483648 ≤ a0 ∧ a0 ≤ 2147483647) → (∀ z : Int, (0 ≤ a0 → a0 < s.1 19 2 → z = s.2.1 21 a0.toNat) → K z s) → CALL 56 [.inr (.inl 19), .inl a0] s K) (h_dz_ntM : ∀ (a0 : Int) (s : sx_S) (K : Int → sx_S → Prop), cx_I s → (-2147483648 ≤ a0 ∧ a0 ≤ 2147483647) → (∀ z : Int, (0 ≤ a0 → a0 < s.1 22 2 → z = s.2.1 24 a0.toNat) → K z s) → CALL 56 [.inr (.inl 22), .inl a0] s K) {s : sx_S} {a0 x2 : Int} (hI : cx_I s) (p0 : 0 ≤ a0 ∧ a0 ≤ 239) (p1 : a0 < s.1 2 5) (hTN : dz_TN b n s) (hC : dz_DL 19 20 21 s C) (hM : dz_DL 22 23 24 s M) (hN : s.1 11 6 < 1024) (q2 : -1 ≤ x2 ∧ x2 ≤ 20) (q27 : 0 ≤ x2 → 0 ≤ s.2.1 27 x2.toNat ∧ s.2.1 27 x2.toNat < s.1 2 5 ∧ s.2.1 27 x2.toNat ≤ 239) (q28 : 0 ≤ x2 → 0 ≤ s.2.1 28 x2.toNat ∧ s.2.1 28 x2.toNat < s.1 11 8) (hQ : 0 ≤ x2 → ¬ px_SN b n (s.2.1 27 x2.toNat) a0 → ∀ w, w = x2 - 1 → Q 15 [(0, .inr (.inl 18)), (1, .inl a0), (2, .inl w)] s) (hV : 0 ≤ x2 → px_SN b n (s.2.1 27 x2.toNat) a0 → ∀ z t, z = s.1 11 6 → cx_I t → cx_F [(11, 17)] (sx_uf s.1 18 12 (s.2.1 17 (s.2.1 28 x2.toNat).toNat), s.2) t → dz_N1 2 (s.2.1 28 x2.toNat) (-1) (sx_uf s.1 18 12 (s.2.1 17 (s.2.1 28 x2.toNat).toNat), s.2) t → R z t) (hKC : x2 < 0 → ∀ i : Int, (0 ≤ i ∧ i < s.1 19 2) → (∃ x, px_cf (px_SN b n) C a0 i.toNat x) → ∀ z t, z = s.1 11 6 → cx_I t → cx_F [(11, 17)] (sx_uf s.1 18 12 (s.2.1 21 i.toNat), s.2) t → dz_N1 1 i (-1) (sx_uf s.1 18 12 (s.2.1 21 i.toNat), s.2) t → R z t) (hKM : x2 < 0 → px_nv (px_SN b n) C a0 → ∀ i : Int, (0 ≤ i ∧ i < s.1 22 2) → (∃ x, px_cf (px_SN b n) M a0 i.toNat x) → ∀ z t, z = s.1 11 6 → cx_I t → cx_F [(11, 17)] (sx_uf s.1 18 12 (s.2.1 24 i.toNat), s.2) t → dz_N1 3 i (-1) (sx_uf s.1 18 12 (s.2.1 24 i.toNat), s.2) t → R z t) (hKN : x2 < 0 → px_nv (px_SN b n) C a0 → px_nv (px_SN b n) M a0 → R (-1) s) : sx_wp true sL sx eX1_meaning CALL [(15, [0, 1, 2])] Q R 400 15 [(0, .inr (.inl 18)), (1, .inl a0), (2, .inl x2)] [] s := by
  have h9 := hI.fld 18 9 (by decide) rfl
  have hc := hI.fld 19 2 (by decide) rfl
  have hm := hI.fld 22 2 (by decide) rfl
  have h28 := hI.arr 28 (by decide) rfl x2.toNat
  have h17 := hI.arr 17 (by decide) rfl (s.2.1 28 x2.toNat).toNat
  have hIu : ∀ v : Int, -2147483648 ≤ v → v ≤ 2147483647 → cx_I (sx_uf s.1 18 12 v, s.2) := fun v a b => cx_I_uf rfl rfl hI a b
  have zzn : ∀ (k h v : Int) (K : Int → sx_S → Prop), (-2147483648 ≤ k ∧ k ≤ 2147483647) → (-2147483648 ≤ h ∧ h ≤ 2147483647) → -2147483648 ≤ v → v ≤ 2147483647 → (∀ z t, z = s.1 11 6 → cx_I t → cx_F [(11, 17)] (sx_uf s.1 18 12 v, s.2) t → dz_N1 k h (-1) (sx_uf s.1 18 12 v, s.2) t → K z t) → CALL 88 [.inr (.inl 11), .inl k, .inl h] (sx_uf s.1 18 12 v, s.2) K := fun k h v K a1 a2 a3 a4 hK => h_node k h _ K (hIu v a3 a4) hN a1 a2 (fun t t1 t2 t3 => hK _ t rfl t1 t2 t3)
  have zzV : 0 ≤ x2 → ∀ K : Int → sx_S → Prop, K (s.2.1 17 (s.2.1 28 x2.toNat).toNat) s → CALL 87 [.inr (.inl 11), .inl (s.2.1 28 x2.toNat)] s K := fun a K hK => h_vt _ _ _ hI (by omega) (fun z z1 => by
    have q := q28 a
    rw [z1 q.1 q.2]
    exact hK)
  by_cases hx : 0 ≤ x2
  · have q27' := q27 hx
    have q28' := q28 hx
    have zzV' := zzV hx
    have hQ' := hQ hx
    have hV' := hV hx
    clear hKC hKM hKN hQ hV zzV q27 q28 h_vt h_node h_dx_findC h_dx_findM h_dz_ntC h_dz_ntM
    repeat' (first | (with_reducible (rintro _ rfl)) | (with_reducible intro _) | (refine And.intro ?_ ?_) | (refine h_dx_sn _ _ _ _ ?_ ?_ ?_ ?_ ?_ ?_) | (refine zzV' _ ?_) | (refine zzn _ _ _ _ ?_ ?_ ?_ ?_ ?_))
    all_goals (try dsimp only at *)
    all_goals (first | trivial | assumption | omega | (exfalso; omega) | (refine hQ' ?_ _ ?_ <;> first | omega | (apply_assumption <;> omega) | (simp only [sx_w_t]; omega)) | (refine hIu _ ?_ ?_ <;> omega) | (refine hV' ?_ _ _ ?_ ?_ ?_ ?_ <;> first | assumption | omega | (apply_assumption <;> omega)) | skip)
  · have hKC' := hKC (by omega)
    have hKM' := hKM (by omega)
    have hKN' := hKN (by omega)
    have zzC : ∀ (i : Int) (K : Int → sx_S → Prop), (0 ≤ i ∧ i < s.1 19 2) → K (s.2.1 21 i.toNat) s → CALL 56 [.inr (.inl 19), .inl i] s K := fun i K a hK => h_dz_ntC i s K hI (by omega) (fun z z1 => by
      rw [z1 a.1 a.2]
      exact hK)
    have zzM : ∀ (i : Int) (K : Int → sx_S → Prop), (0 ≤ i ∧ i < s.1 22 2) → K (s.2.1 24 i.toNat) s → CALL 56 [.inr (.inl 22), .inl i] s K := fun i K a hK => h_dz_ntM i s K hI (by omega) (fun z z1 => by
      rw [z1 a.1 a.2]
      exact hK)
    have zz21 := fun j => hI.arr 21 (by decide) rfl j
    have zz24 := fun j => hI.arr 24 (by decide) rfl j
    clear hKC hKM hKN hQ hV zzV q27 q28 h_vt h_node h_dx_sn h_dz_ntC h_dz_ntM
    have zzfC : ∀ K : Int → sx_S → Prop, (px_nv (px_SN b n) C a0 → K (-1) s) → (∀ i : Int, (0 ≤ i ∧ i < s.1 19 2) → (∃ x, px_cf (px_SN b n) C a0 i.toNat x) → K i s) → CALL 54 [.inr (.inl 19), .inr (.inl 2), .inl a0] s K := fun K k1 k2 => h_dx_findC a0 s K hI p0 hTN p1 hC (fun z z1 z2 z3 => by
      by_cases e : z = -1
      · rw [e]
        exact k1 (z2 e)
      · exact k2 z (z3 e).1 (z3 e).2)
    have zzfM : ∀ K : Int → sx_S → Prop, (px_nv (px_SN b n) M a0 → K (-1) s) → (∀ i : Int, (0 ≤ i ∧ i < s.1 22 2) → (∃ x, px_cf (px_SN b n) M a0 i.toNat x) → K i s) → CALL 54 [.inr (.inl 22), .inr (.inl 2), .inl a0] s K := fun K k1 k2 => h_dx_findM a0 s K hI p0 hTN p1 hM (fun z z1 z2 z3 => by
      by_cases e : z = -1
      · rw [e]
        exact k1 (z2 e)
      · exact k2 z (z3 e).1 (z3 e).2)
    clear h_dx_findC h_dx_findM
    repeat' (first | (with_reducible (rintro _ rfl)) | (with_reducible intro _) | (refine And.intro ?_ ?_) | (refine zzfC _ ?_ ?_) | (refine zzfM _ ?_ ?_) | (refine zzC _ _ ?_ ?_) | (refine zzM _ _ ?_ ?_) | (refine zzn _ _ _ _ ?_ ?_ ?_ ?_ ?_))
    all_goals (try dsimp only at *)
    all_goals (first | trivial | assumption | omega | (exfalso; omega) | (exact (zz21 _).1) | (exact (zz21 _).2) | (exact (zz24 _).1) | (exact (zz24 _).2) | (exact hKN' (by assumption) (by assumption)) | (refine hIu _ ?_ ?_ <;> first | exact (zz21 _).1 | exact (zz21 _).2 | exact (zz24 _).1 | exact (zz24 _).2) | (show R _ _; apply hKC' <;> first | assumption | rfl) | (show R _ _; apply hKM' <;> first | assumption | rfl) | skip)

theorem c_dz_meaning {sL : Nat} {sx : Nat → Int32} (hsL : sL ≤ 3072) (d : Nat) (hd : 5 ≤ d) (b : Nat → Int) (n : Int) (C M : List (Int × qx_T)) : ∀ (a0 : Int) (Γ : List (Int × qx_T)) (ρ : List Int) (s : sx_S) (R : Int → sx_S → Prop), cx_I s → (0 ≤ a0 ∧ a0 < s.1 2 5) → dz_E b n C M s → dz_SC s Γ ρ → s.1 11 6 < 1024 → (∀ t k h i u, cx_I t → dz_mn b n C M Γ ρ a0 s t k h i u → R (s.1 11 6) t) → ((∀ k i u, ¬ px_hd (px_SN b n) C M Γ a0 k i u) → R (-1) s) → sx_C sL sx d 32 [.inr (.inl 18), .inl a0] s R := by
  intro a0 Γ ρ s R hI p0 hE hS hN hK hX
  obtain ⟨e1, e2, e3, ⟨e4, e5⟩, e6, e7⟩ := hE trivial
  obtain ⟨⟨s1, s2⟩, s3, s4, s5, s6⟩ := hS trivial
  have hm := (((e1 trivial).2.2) trivial).1
  have h9 := hI.fld 18 9 (by decide) rfl
  have hl1 := (e2 trivial).1
  have hl2 := (e3 trivial).1
  obtain ⟨d, rfl⟩ : ∃ e, d = e + 2 := ⟨d - 2, by omega⟩
  refine sx_methL (wr := true) (n := 400) (n' := 400) (stop := [(15, [0, 1, 2])]) (fun nn pc ls u => pc = 15 ∧ u = s ∧ ∃ x2 : Int, ls = [(0, .inr (.inl 18)), (1, .inl a0), (2, .inl x2)] ∧ (-1 ≤ x2 ∧ x2 < s.1 18 9) ∧ px_s1 (px_SN b n) Γ a0 x2 ∧ nn = (x2 + 1).toNat) hsL (e := eX1_meaning) rfl ?_ ?_
  · exact w_mg hI (fun x2 e => ⟨_, rfl, rfl, x2, rfl, by omega, px_s1_0 (by omega), rfl⟩)
  · rintro nn pc ls u ⟨rfl, rfl, x2, rfl, i1, i2, rfl⟩
    have hx : 0 ≤ x2 → ∃ e, Γ[Γ.length - 1 - x2.toNat]? = some e ∧ u.2.1 27 x2.toNat = e.1 ∧ (0 ≤ e.1 ∧ e.1 < u.1 2 5) ∧ u.2.1 28 x2.toNat = px_id ρ x2.toNat ∧ dx_is u e.2 (u.2.1 17 (px_id ρ x2.toNat).toNat) := fun q => s3 x2.toNat (by omega)
    have hnv : x2 < 0 → px_nv (px_SN b n) Γ a0 := fun q e he => by
      obtain ⟨i, hi⟩ := List.mem_iff_getElem?.mp he
      have hl : i < Γ.length := (List.getElem?_eq_some_iff.mp hi).1
      exact i2 (Γ.length - 1 - i) (by omega) (by omega) e (by rw [show Γ.length - 1 - (Γ.length - 1 - i) = i by omega]; exact hi)
    refine w_mg_15 (c_dx_sn hsL (d + 1) (by omega) b n) (c_dz_vt hsL (d + 1) (by omega)) (c_dz_node hsL (d + 1) (by omega)) (c_dx_findC hsL (d + 1) (by omega) b n C) (c_dx_findM hsL (d + 1) (by omega) b n M) (c_dz_ntC hsL (d + 1) (by omega)) (c_dz_ntM hsL (d + 1) (by omega)) hI (by omega) p0.2 e1 e2 e3 hN (by omega) (fun q => ?_) (fun q => ?_) (fun q hq w hw => ?_) (fun q hq z t hz t1 t2 t3 => ?_) (fun q i hi hf z t hz t1 t2 t3 => ?_) (fun q hc i hi hf z t hz t1 t2 t3 => ?_) (fun q hc hm' => ?_)
    · obtain ⟨e, a1, a2, a3, a4, a5⟩ := hx q
      omega
    · obtain ⟨e, a1, a2, a3, a4, a5⟩ := hx q
      rw [a4]
      exact s4 _ (px_id_mem (by omega))
    · subst hw
      refine ⟨_, ?_, rfl, rfl, x2 - 1, rfl, by omega, px_s1_up i2 q rfl (fun e he => ?_), rfl⟩
      · omega
      · obtain ⟨e', a1, a2, _⟩ := hx q
        rw [he] at a1
        cases a1
        rw [← a2]
        exact hq
    · obtain ⟨e, a1, a2, a3, a4, a5⟩ := hx q
      rw [a2] at hq
      have hvr := px_vr_x i2 q (by omega) a1 hq
      obtain ⟨q', c1, c2⟩ := px_vr_e hvr
      have hw := s4 _ (px_id_mem (ρ := ρ) (l := x2.toNat) (by omega))
      rw [hz]
      rw [a4] at t2 t3
      exact hK t 2 (px_id ρ x2.toNat) x2.toNat e.2 t1 (dz_mn_mk hI e4 e5 (Or.inl ⟨rfl, hvr⟩) ⟨fun _ => rfl, fun q => absurd rfl q⟩ (by omega) a5 (by rw [← c2]; exact s6 _ c1) t1 t2 t3)
    · obtain ⟨x, hf⟩ := hf
      obtain ⟨q', c1, c2⟩ := px_cf_e hf
      obtain ⟨e, a1, a2, a3, a4⟩ := dz_DL_tok e2 hi.1 hi.2
      rw [c1] at a1
      cases a1
      rw [hz]
      exact hK t 1 i i.toNat x t1 (dz_mn_mk hI e4 e5 (Or.inr (Or.inl ⟨rfl, hnv q, hf⟩)) ⟨fun h => absurd h (by decide), fun _ => (by omega)⟩ (by omega) (by rw [← c2]; exact a4) (by rw [← c2]; exact e6 _ (List.mem_of_getElem? c1)) t1 t2 t3)
    · obtain ⟨x, hf⟩ := hf
      obtain ⟨q', c1, c2⟩ := px_cf_e hf
      obtain ⟨e, a1, a2, a3, a4⟩ := dz_DL_tok e3 hi.1 hi.2
      rw [c1] at a1
      cases a1
      rw [hz]
      exact hK t 3 i i.toNat x t1 (dz_mn_mk hI e4 e5 (Or.inr (Or.inr ⟨rfl, hnv q, hc, hf⟩)) ⟨fun h => absurd h (by decide), fun _ => (by omega)⟩ (by omega) (by rw [← c2]; exact a4) (by rw [← c2]; exact e7 _ (List.mem_of_getElem? c1)) t1 t2 t3)
    · refine hX (fun k i u' h => ?_)
      rcases h with ⟨_, h⟩ | ⟨_, _, h⟩ | ⟨_, _, _, h⟩
      · exact px_vr_nv h (hnv q)
      · exact px_cf_nv h hc
      · exact px_cf_nv h hm'
