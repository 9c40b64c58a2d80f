/-! ===== the root of an unknown after solving: its type, its value ===== -/
theorem dx_root {s t : sx_S} {M : List (Int × qx_T)} {S : vx_S} {th : Int → rf_N} {k : Nat} {tc : Int → rf_T} {tm' : Int → Int → rf_T} (htm' : dx_tm (dv_S0 s (dl_ra M) (dl_AR s)) (dl_tm M) tm') (hI : cx_I s) (hM : ∀ q ∈ M, qx_at q.2 ≤ 5) (hk : k < M.length) (hM0 : s.1 22 2 = (M.length : Int)) (h6 : s.1 11 6 ≤ 960) (hle : vx_le (dv_S0 s (dl_ra M) (dl_AR s)) S) (hfr : dw_fr s t) (hS : vx_So S th) (h : dw_r1 M k s (s.2.1 25 k)) : ∃ (A : rf_N) (p : Int × qx_T), M[k]? = some p ∧ dv_at t S.2.2.2.2 A (t.2.1 25 k) ∧ vx_sd (dl_tw s) tc tm' S (fun _ => rf_b) 0 (qx_sh p.2) A [] ∧ (vx_lh A ≤ 67 ∧ vx_hh A ≤ 20 ∧ vx_hz A ≤ 1024) ∧ wd_v th S.2.2.2.2 (A, dv_lk [], 0) = vq_lm (rf_args (qx_sh p.2)).length (th (k : Int)) ∧ (∀ nC, wk_kc nC A) ∧ vx_ha A = 0 := by
  obtain ⟨W, p, e1, ⟨e2, e3⟩, ⟨e4, e5⟩, e6⟩ := h trivial
  obtain ⟨f1, f2⟩ := hfr trivial
  have f6 := hI.fld 11 6 (by decide) rfl
  have lt := dz_T_lt e3
  obtain ⟨nd, ar, ndp, _, _⟩ := e3 trivial
  have hA := dl_AR_ar nd ar
  have hc := e6 _ hA
  have p5 : qx_at p.2 ≤ 5 := hM p (List.mem_of_getElem? e1)
  have tr : dv_tr (s.2.1 16) (dl_AR s) W := vl_c3_tr hc (by omega) (by show 0 + qx_at p.2 ≤ 5; omega) ar hA List.nodup_nil (fun _ h => absurd h List.not_mem_nil)
  have hra : dl_ra M (k : Int) = ((rf_args (qx_sh p.2)).length : Int) := by
    unfold dl_ra
    rw [Int.toNat_natCast, e1]
    rfl
  have htm : ∀ i : Int, dl_tm M (k : Int) i = vl_ta p.2 i := fun i => by
    unfold dl_tm
    rw [Int.toNat_natCast, e1]
    rfl
  obtain ⟨ty, ok⟩ := vl_c3_ty (tv := dl_tw s) (tc := tc) (tm := dl_tm M) (fun v T h => dl_tw_eq h) (U := p.2) (Ts := []) hc htm rfl rfl (fun i y T h => by simp at h)
  have hin : vx_in (dv_S0 s (dl_ra M) (dl_AR s)) W := by
    refine ⟨fun m hm => ?_, fun j hj => lt j hj, vx_ok_cg (fun m hm => ?_) (fun _ _ => rfl) ok⟩
    · have := vl_c3_mt hc hm
      show 0 ≤ m ∧ m < s.1 22 2
      omega
    · rw [vl_c3_mt hc hm]
      exact hra
  have nf : dv_nf (s.1 11 6) (dl_AR s) S.2.2.2.2 s t := fun _ => ⟨f1, fun j hj => hle.2.2.2 j hj⟩
  have hat : dv_at s (dl_AR s) W (s.2.1 25 k) := by
    obtain ⟨j, kk, hh, F, eW⟩ := e5
    subst eW
    obtain ⟨⟨a1, a2⟩, ⟨a3, a4⟩, a5, _⟩ := nd
    exact ⟨j, kk, hh, F, rfl, ⟨a1, a2⟩, ⟨a3, a4⟩, a5, tr⟩
  have hc' := e6 S.2.2.2.2 (dw_ar_cg (fun j hj => hle.2.2.2 j (lt j hj)) hA)
  obtain ⟨_, _, lh, hh, _⟩ := vl_c3_ct (D := []) List.nodup_nil hc
  have h1 := vx_hz_idx W
  have h2 := dl_len f6.1 ndp lt
  have k1 : (k : Int) < S.1 := by
    have q : s.1 22 2 ≤ S.1 := hle.1.1
    omega
  refine ⟨W, p, e1, by rw [(f2.same 25 rfl).2]; exact dv_at_fr (Int.le_refl _) nf hat, fun _ => ⟨⟨vx_in_le hle hin, e5, (vx_ty_cg (fun m i hm => htm' m i (hin.1 m hm).2) (fun j hj => hle.2.2.2 j (lt j hj))).1 _ ty⟩, fun z hz => absurd hz (show ¬ (0 : Int) ≤ -1 by decide), ⟨Int.le_refl _, vx_ck_nil 0⟩, fun z hz => ?_, vx_nb_mono (fun z hz => absurd hz List.not_mem_nil) e4⟩, ⟨by omega, by omega, by omega⟩, ?_, fun _ => vl_c3_kc hc, vl_c3_ha hc⟩
  · exact absurd (vl_c3_fv hc' (fun _ h => absurd h List.not_mem_nil) z hz) List.not_mem_nil
  · obtain ⟨us, u1, u2, u3, u4⟩ := vq_c3 hc'
    show vx_val th S.2.2.2.2 W (dv_lk []) 0 = _
    rw [u4 th (dv_lk []) 0 (fun m => (hS.1 m).1), vx_re_id (hS.2.1 (k : Int) (by omega) k1) (fun v hv => dw_id_ix u2 _ v ((hS.1 (k : Int)).2 v hv)), u1]
