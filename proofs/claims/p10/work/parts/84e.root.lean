/-! ===== the desk: the roots of the unknowns as solving leaves them ===== -/
theorem dw_lm_go (T : rf_N) : ∀ (n : Nat) (a : List (Int × List Int)), wz_go (vq_lm n T) a = wz_go T a
  | 0, _ => rfl
  | n + 1, a => by
    show wz_go (.inner 0 (0, 0) () (vq_lm n T) .leaf) a = _
    rw [wz_go_in, if_neg (by decide)]
    exact dw_lm_go T n a
theorem dw_id_ix {us : List Int} (hn : us.Nodup) (e : Int → Int) (v : Int) (hv : 0 ≤ v) : vx_ix ((([] : List Int) ++ us).map (vq_up us 0 e)) (0 + (us.length : Int)) v = v := by
  have hm := vq_up_map hn 0 e
  show vx_ix (us.map (vq_up us 0 e)) (0 + (us.length : Int)) v = v
  unfold vx_ix
  rw [List.length_map]
  by_cases c : v < (us.length : Int)
  · rw [if_pos c, List.getD_eq_getElem?_getD, hm v.toNat (by omega)]
    show 0 + ((v.toNat : Nat) : Int) = v
    omega
  · rw [if_neg c]
    omega
theorem dw_ar_cg {AR AR' : Nat → List Int} : ∀ {W : rf_N}, (∀ j ∈ rf_idx W, AR' j = AR j) → dl_ar AR W → dl_ar AR' W
  | .leaf, _, _ => trivial
  | .inner j q u F X, h, ⟨h1, h2, h3⟩ => ⟨fun q3 => by rw [h j List.mem_cons_self]; exact h1 q3, fun q3 => dw_ar_cg (fun i hi => h i (List.mem_cons_of_mem _ (List.mem_append_left _ hi))) (h2 q3), dw_ar_cg (fun i hi => h i (List.mem_cons_of_mem _ (List.mem_append_right _ hi))) h3⟩
theorem dw_nn_tr {A16 : Nat → Int} {AR : Nat → List Int} : ∀ {A : rf_N}, dv_tr A16 AR A → wz_nn A
  | .leaf, _ => trivial
  | .inner j q u F X, ⟨h1, h2, h3⟩ => by
    refine ⟨fun _ => h2, fun q3 => ?_, dw_nn_tr h3, fun q0 => ?_⟩
    · rcases h1 with ⟨_, _, h⟩ | ⟨_, _, h⟩ | ⟨e, _⟩
      · exact dw_nn_tr h
      · exact dw_nn_tr h
      · exact absurd e q3
    · rcases h1 with ⟨_, h, _⟩ | ⟨e, _⟩ | ⟨e, _⟩
      · exact h
      · omega
      · omega
/-- the root of one unknown -/
theorem dw_root {s t : sx_S} {M : List (Int × qx_T)} {S : vx_S} {th : Int → rf_N} {k : Nat} (hI : cx_I s) (hM : ∀ q ∈ M, qx_at q.2 ≤ 5) (hk : k < M.length) (hM0 : s.1 22 2 = (M.length : Int)) (h6 : s.1 11 6 ≤ 960) (hle : vx_le (dv_S0 s (dl_ra M) (dl_AR s)) S) (hfr : dw_fr s t) (hS : vx_So S th) (h : dw_r1 M k s (s.2.1 25 k)) : ∃ A, dv_at t S.2.2.2.2 A (t.2.1 25 k) ∧ wd_sd S 0 A [] ∧ (vx_lh A ≤ 67 ∧ vx_hh A ≤ 20 ∧ vx_hz A ≤ 1024) ∧ ∀ a, wz_go (wd_v th S.2.2.2.2 (A, dv_lk [], 0)) a = wz_go (th (k : Int)) a := by
  obtain ⟨W, p, e1, ⟨e2, e3⟩, ⟨e4, e5⟩, e6⟩ := h trivial
  obtain ⟨f1, f2⟩ := hfr trivial
  have f6 := hI.fld 11 6 (by decide) rfl
  have lt := dz_T_lt e3
  obtain ⟨nd, ar, ndp, _, _⟩ := e3 trivial
  have hA := dl_AR_ar nd ar
  have hc := e6 _ hA
  have p5 : qx_at p.2 ≤ 5 := hM p (List.mem_of_getElem? e1)
  have tr : dv_tr (s.2.1 16) (dl_AR s) W := vl_c3_tr hc (by omega) (by show 0 + qx_at p.2 ≤ 5; omega) ar hA List.nodup_nil (fun _ h => absurd h List.not_mem_nil)
  have hra : dl_ra M (k : Int) = ((rf_args (qx_sh p.2)).length : Int) := by
    unfold dl_ra
    rw [Int.toNat_natCast, e1]
    rfl
  have htm : ∀ i : Int, dl_tm M (k : Int) i = vl_ta p.2 i := fun i => by
    unfold dl_tm
    rw [Int.toNat_natCast, e1]
    rfl
  have ok := (vl_c3_ty (tv := dl_tv s) (tc := fun _ => rf_b) (tm := dl_tm M) (fun v T h => dl_tv_eq h) (U := p.2) (Ts := []) hc htm rfl rfl (fun i y T h => by simp at h)).2
  have hin : vx_in (dv_S0 s (dl_ra M) (dl_AR s)) W := by
    refine ⟨fun m hm => ?_, fun j hj => lt j hj, vx_ok_cg (fun m hm => ?_) (fun _ _ => rfl) ok⟩
    · have := vl_c3_mt hc hm
      show 0 ≤ m ∧ m < s.1 22 2
      omega
    · rw [vl_c3_mt hc hm]
      exact hra
  have nf : dv_nf (s.1 11 6) (dl_AR s) S.2.2.2.2 s t := fun _ => ⟨f1, fun j hj => hle.2.2.2 j hj⟩
  have hat : dv_at s (dl_AR s) W (s.2.1 25 k) := by
    obtain ⟨j, kk, hh, F, eW⟩ := e5
    subst eW
    obtain ⟨⟨a1, a2⟩, ⟨a3, a4⟩, a5, _⟩ := nd
    exact ⟨j, kk, hh, F, rfl, ⟨a1, a2⟩, ⟨a3, a4⟩, a5, tr⟩
  have hc' := e6 S.2.2.2.2 (dw_ar_cg (fun j hj => hle.2.2.2 j (lt j hj)) hA)
  obtain ⟨_, _, lh, hh, _⟩ := vl_c3_ct (D := []) List.nodup_nil hc
  have h1 := vx_hz_idx W
  have h2 := dl_len f6.1 ndp lt
  have k1 : (k : Int) < S.1 := by
    have q : s.1 22 2 ≤ S.1 := hle.1.1
    omega
  refine ⟨W, by rw [(f2.same 25 rfl).2]; exact dv_at_fr (Int.le_refl _) nf hat, fun _ => ⟨⟨vx_in_le hle hin, e5⟩, ⟨Int.le_refl _, vx_ck_nil 0⟩, fun z hz => ?_, vx_nb_mono (fun z hz => absurd hz List.not_mem_nil) e4⟩, ⟨by omega, by omega, by omega⟩, fun a => ?_⟩
  · exact absurd (vl_c3_fv hc' (fun _ h => absurd h List.not_mem_nil) z hz) List.not_mem_nil
  · obtain ⟨us, u1, u2, u3, u4⟩ := vq_c3 hc'
    show wz_go (vx_val th S.2.2.2.2 W (dv_lk []) 0) a = _
    rw [u4 th (dv_lk []) 0 (fun m => (hS.1 m).1), dw_lm_go, vx_re_id (hS.2.1 (k : Int) (by omega) k1) (fun v hv => dw_id_ix u2 _ v ((hS.1 (k : Int)).2 v hv))]
theorem dw_R {s t : sx_S} {M : List (Int × qx_T)} {S : vx_S} {th : Int → rf_N} (hI : cx_I s) (hM : ∀ q ∈ M, qx_at q.2 ≤ 5) (hM0 : s.1 22 2 = (M.length : Int)) (h6 : s.1 11 6 ≤ 960) (hle : vx_le (dv_S0 s (dl_ra M) (dl_AR s)) S) (hfr : dw_fr s t) (hS : vx_So S th) (h : dw_ro M M.length s) : ∃ ls : List rf_N, ls.length = M.length ∧ wd_R S th t ls := by
  obtain ⟨ls, l1, l2⟩ := dl_list (o := 0) (E := M) (P := fun k (_ : Int × qx_T) (A : rf_N) => dv_at t S.2.2.2.2 A (t.2.1 25 k) ∧ wd_sd S 0 A [] ∧ (vx_lh A ≤ 67 ∧ vx_hh A ≤ 20 ∧ vx_hz A ≤ 1024) ∧ ∀ a, wz_go (wd_v th S.2.2.2.2 (A, dv_lk [], 0)) a = wz_go (th (k : Int)) a) (fun k p hk => by
    have hl := (List.getElem?_eq_some_iff.mp hk).1
    rw [Nat.zero_add]
    exact dw_root hI hM hl hM0 h6 hle hfr hS (h trivial k hl))
  obtain ⟨_, f2⟩ := hfr trivial
  refine ⟨ls, l1, fun _ => ⟨by rw [(f2.same 22 rfl).1, hM0, l1], fun k A hA => ?_⟩⟩
  have hl : k < M.length := by
    rw [← l1]
    exact (List.getElem?_eq_some_iff.mp hA).1
  obtain ⟨y, y1, y2⟩ := l2 k _ (List.getElem?_eq_getElem hl)
  rw [hA] at y1
  have ey : A = y := Option.some.inj y1
  rw [Nat.zero_add, ← ey] at y2
  exact y2
theorem dw_MG {tv tc : Int → rf_T} {tm : Int → Int → rf_T} {t : sx_S} {S : vx_S} {PR : Int → List (Int × Int)} {n0 : Int} {Qs : (Int → rf_N) → Prop} {th : Int → rf_N} (hG : dv_G tv tc n0 Qs t S PR tm [] []) (hS : vx_So S th) (ho : ∀ u, S.2.2.2.1 u = none → th u = vx_gn S.2.2.1 u) : wz_MG S n0 Qs th := fun _ => by
  obtain ⟨g1, g2, g3, g4, _, _, g8⟩ := hG trivial
  obtain ⟨⟨W, B1, Sc, rk, hrk⟩, _⟩ := g3 trivial
  obtain ⟨_, M4⟩ := g2 trivial
  refine ⟨⟨W, B1, rk, hrk⟩, fun u B e hb => ?_, ⟨hS, ho⟩, fun th' h => g8.1 th' h (fun _ hp => absurd hp List.not_mem_nil), g8.2.2.1, g8.2.2.2⟩
  obtain ⟨u0, u1⟩ := (W u B e hb).1
  rcases (M4 u u0 u1).2 with ⟨q, _⟩ | ⟨B', q1, q2, _⟩
  · rw [q] at hb
    cases hb
  · rw [q1] at hb
    obtain ⟨e1, _⟩ := Prod.mk.inj (Option.some.inj hb)
    subst e1
    obtain ⟨j, k, h, F, eB, _, _, _, tr⟩ := q2
    exact dw_nn_tr tr
theorem wz_MG_cg {S : vx_S} {n0 : Int} {Q Q' : (Int → rf_N) → Prop} {th : Int → rf_N} (h : ∀ th, vx_gd th → (Q th ↔ Q' th)) (hG : wz_MG S n0 Q th) : wz_MG S n0 Q' th := fun _ => by
  obtain ⟨g1, g2, g3, g4, g5, g6⟩ := hG trivial
  exact ⟨g1, g2, g3, fun th' h' => (h th' h'.1).mp (g4 th' h'), g5, fun th0 a1 a2 a3 => g6 th0 a1 a2 ((h th0 a1).mpr a3)⟩
