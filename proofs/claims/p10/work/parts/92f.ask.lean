/-! ===== the reference: what it answers of an unknown's value ===== -/
/-- what it holds after solving -/
def wr_D (b : Nat → Int) (n : Int) (l : List vl_I) (t : sx_S) : Prop := True → ∃ (TV : Int → qx_T → Prop) (AR' : Nat → List Int) (tl : vw_L), wr_Y (wb_E (wy_nm b n (vl_kf l []))) b n l TV AR' tl t
theorem we_S_k {Ω : Type} {E : we_E Ω} (hL : we_L E) {s t : sx_S} {g : rf_Gh} (hI : cx_I t) (hF : cx_F [(0, 67)] s t) (hf : rf_f [1] s t) (hS : we_S E s g) : we_S E t g := by
  have A : ∀ p, cx_outb [(0, 67)] p = true → t.2.1 p = s.2.1 p := fun p hp => (hF.same p hp).2
  have e9 := hf 9 rfl
  have e42 := hf 42 rfl
  have e50 := hf 50 rfl
  have e56 := hf 56 rfl
  have e58 := hf 58 rfl
  have e61 := hf 61 rfl
  have e64 := hf 64 rfl
  have e70 := hf 70 rfl
  have hE : rf_EX (s.1 66 71) (s.1 66 58) s t := ⟨⟨⟨e9, A 72 rfl, A 73 rfl, A 96 rfl, e42⟩, by omega, by omega, by omega, by omega, by omega⟩, fun j => ⟨fun _ => ⟨congrFun (A 100 rfl) j, congrFun (A 101 rfl) j, congrFun (A 102 rfl) j, congrFun (A 103 rfl) j, congrFun (A 104 rfl) j⟩, fun _ => congrFun (A 105 rfl) j, fun _ => congrFun (A 106 rfl) j, fun _ => ⟨congrFun (A 108 rfl) j, congrFun (A 109 rfl) j, fun _ => ⟨congrFun (A 111 rfl) j, congrFun (A 112 rfl) j, congrFun (A 113 rfl) j, congrFun (A 114 rfl) j⟩⟩, fun _ => congrFun (A 110 rfl) j, fun _ => ⟨congrFun (A 115 rfl) j, congrFun (A 116 rfl) j, congrFun (A 117 rfl) j⟩⟩⟩
  have hN : rf_NC s t := ⟨e61, fun j _ => congrFun (A 111 rfl) j⟩
  have hO : rf_OD t := rf_OD_same (hS trivial).1.1.2.2.2.2.2 e61 (hf 83 rfl) (hf 79 rfl) (fun p hp => by
    rcases hp with rfl | rfl | rfl | rfl
    · exact A 108 rfl
    · exact A 118 rfl
    · exact A 120 rfl
    · exact A 121 rfl)
  refine we_S_up hL hI hE hN hO (fun k hk => ?_) (fun p h1 h2 => ?_) ?_ hS
  · rcases hk with rfl | rfl | rfl | rfl | rfl | rfl | rfl | rfl | rfl <;> exact hf _ rfl
  · exact ((hF p).1 (fun q hq => by
      simp only [List.mem_cons, List.not_mem_nil, or_false] at hq
      rcases hq with rfl
      dsimp only
      omega)).2
  · refine we_N_same (hf 79 rfl) e61 (fun p hp => ?_) (hS trivial).2.2.1
    rcases hp with rfl | rfl | rfl | rfl
    · exact A 108 rfl
    · exact A 118 rfl
    · exact A 120 rfl
    · exact A 121 rfl
theorem wr_D_k {b : Nat → Int} {n : Int} {l : List vl_I} {s t : sx_S} (hI : cx_I t) (hF : cx_F [(0, 67)] s t) (hf : rf_f [1] s t) (h : wr_D b n l s) : wr_D b n l t := fun _ => by
  obtain ⟨TV, AR', tl, hY⟩ := h trivial
  obtain ⟨g, ht, th, AR, rk, S, hS, hZ, e45, har, hsd⟩ := hY trivial
  refine ⟨TV, AR', tl, fun _ => ⟨g, ht, th, AR, rk, S, we_S_k (show we_L ((wb_E (wy_nm b n (vl_kf l []))).1, (wb_E (wy_nm b n (vl_kf l []))).2.1, ht, th, AR, rk) from wb_L _) hI hF hf hS, hZ, (hf 45 rfl).trans e45, fun m m0 m1 => ?_, wr_sd_up (fun p j h1 h2 _ => ?_) (by rw [hf 50 rfl]; exact Int.le_refl _) (hf 47 rfl) (hF.same 98 rfl).2 (hF.same 99 rfl).2 hsd⟩⟩
  · have e : rf_aa t m = rf_aa s m := congrFun (hF.same 108 rfl).2 _
    rw [e]
    exact har m m0 m1
  · exact congrFun ((hF p).1 (fun q hq => by
      simp only [List.mem_cons, List.not_mem_nil, or_false] at hq
      rcases hq with rfl
      dsimp only
      omega)).2 j
theorem wr_D_d {b : Nat → Int} {n : Int} {l : List vl_I} {V : List (Nat × Nat)} {s t : sx_S} (hI : cx_I t) (hF : cx_F V s t) (hV : cx_le V [(0, 65)] = true) (h : wr_D b n l s) : wr_D b n l t := by
  have hF1 : cx_F [(0, 65)] s t := cx_F_step hF hV (cx_F_refl _ _)
  exact wr_D_k hI (cx_F_step hF1 rfl (cx_F_refl _ _)) (fun k _ => by rw [(hF1.same 66 rfl).1]) h
theorem wr_Y_p {b : Nat → Int} {n : Int} {l : List vl_I} {th : Int → rf_N} {AR : Nat → List Int} {s t : sx_S} (hp : rf_PP s t) (e45 : s.1 66 45 = ((vl_mf l []).length : Int)) (har : ∀ m, 0 ≤ m → m < ((vl_mf l []).length : Int) → rf_aa s m = vs_ra (vl_mf l []) m) (hsd : wr_sd b n l th AR s) : t.1 66 45 = ((vl_mf l []).length : Int) ∧ (∀ m, 0 ≤ m → m < ((vl_mf l []).length : Int) → rf_aa t m = vs_ra (vl_mf l []) m) ∧ wr_sd b n l th AR t := by
  obtain ⟨⟨_, a2, _⟩, p2, p3⟩ := hp
  refine ⟨(p3 45 rfl).trans e45, fun m m0 m1 => ?_, wr_sd_up (fun p j h1 h2 h3 => ?_) (by rw [p3 50 rfl]; exact Int.le_refl _) (p3 47 rfl) (p2.same 98 rfl).2 (p2.same 99 rfl).2 hsd⟩
  · have e : rf_aa t m = rf_aa s m := congrFun (p2.same 108 rfl).2 _
    rw [e]
    exact har m m0 m1
  · obtain ⟨d1, d2, d3, d4, _⟩ := (a2.2 j).1 h3
    have hc : p = 100 ∨ p = 101 ∨ p = 102 ∨ p = 103 := by omega
    rcases hc with rfl | rfl | rfl | rfl
    · exact d1
    · exact d2
    · exact d3
    · exact d4
theorem wb_Sp_0 (p : Nat → Int) : wb_Sp 0 p [] := ⟨Or.inl ⟨by decide, rfl⟩, fun i hi => absurd hi (Nat.not_lt_zero _)⟩
/-- for the calls that are not compared -/
theorem wr_ex {b : Nat → Int} {n : Int} {l : List vl_I} {s : sx_S} (h : s.1 66 78 ≠ 0 → wr_D b n l s) : ∃ (E : we_E (List Int)) (g : rf_Gh), (we_L E ∧ ∀ (sL : Nat) (sx : Nat → Int32), sL ≤ 3072 → we_K E sL sx) ∧ (∀ p : Nat → Int, E.2.1.1 0 p []) ∧ (s.1 66 78 ≠ 0 → we_S E s g) ∧ ∀ t, s.1 66 78 ≠ 0 → rf_PP s t → we_S E t g → wr_D b n l t := by
  by_cases c : s.1 66 78 ≠ 0
  · obtain ⟨TV, AR', tl, hY⟩ := h c trivial
    obtain ⟨g, ht, th, AR, rk, S, hS, hZ, e45, har, hsd⟩ := hY trivial
    refine ⟨((wb_E (wy_nm b n (vl_kf l []))).1, (wb_E (wy_nm b n (vl_kf l []))).2.1, ht, th, AR, rk), g, ⟨wb_L _, fun sL sx hsL => wb_K _ hsL⟩, wb_Sp_0, fun _ => hS, fun t _ hp hs => fun _ => ⟨TV, AR', tl, fun _ => ⟨g, ht, th, AR, rk, S, hs, hZ, wr_Y_p hp e45 har hsd⟩⟩⟩
  · exact ⟨wb_E (wy_nm b n (vl_kf l [])), rf_g0 s, ⟨wb_L _, fun sL sx hsL => wb_K _ hsL⟩, wb_Sp_0, fun q => absurd q c, fun t q => absurd q c⟩
theorem c_X_size0 {b : Nat → Int} {n : Int} {l : List vl_I} {sL : Nat} {sx : Nat → Int32} (hsL : sL ≤ 3072) (d : Nat) (hd : 1640 ≤ d) : ∀ (k : Int) (s : sx_S) (K : Int → sx_S → Prop), cx_I s → (-2147483648 ≤ k ∧ k ≤ 2147483647) → (s.1 66 78 ≠ 0 → wr_D b n l s) → (∀ z t, (t = s ∨ (s.1 66 78 ≠ 0 ∧ rf_PP s t)) → (s.1 66 78 ≠ 0 → wr_D b n l t) → K z t) → sx_C sL sx d 215 [.inr (.inl 66), .inl k] s K := by
  intro k s K hI pk hD hK
  obtain ⟨E, g, ⟨hL, hKE⟩, h0, hS, hY⟩ := wr_ex hD
  refine c_e_size hL (hKE sL sx hsL) hsL d (by omega) h0 k s g K hI pk hS (fun z t _ hp => ?_)
  rcases hp with rfl | ⟨p1, p2, p3⟩
  · exact hK z _ (Or.inl rfl) hD
  · exact hK z t (Or.inr ⟨p1, p2⟩) (fun _ => hY t p1 p2 p3)
theorem c_X_letter0 {b : Nat → Int} {n : Int} {l : List vl_I} {sL : Nat} {sx : Nat → Int32} (hsL : sL ≤ 3072) (d : Nat) (hd : 1640 ≤ d) : ∀ (k i : Int) (s : sx_S) (K : Int → sx_S → Prop), cx_I s → (-2147483648 ≤ k ∧ k ≤ 2147483647) → (-2147483648 ≤ i ∧ i ≤ 2147483647) → (s.1 66 78 ≠ 0 → wr_D b n l s) → (∀ z t, (t = s ∨ (s.1 66 78 ≠ 0 ∧ rf_PP s t)) → (s.1 66 78 ≠ 0 → wr_D b n l t) → K z t) → sx_C sL sx d 216 [.inr (.inl 66), .inl k, .inl i] s K := by
  intro k i s K hI pk pi hD hK
  obtain ⟨E, g, ⟨hL, hKE⟩, h0, hS, hY⟩ := wr_ex hD
  refine c_e_letter hL (hKE sL sx hsL) hsL d (by omega) h0 k i s g K hI pk pi hS (fun z t _ hp => ?_)
  rcases hp with rfl | ⟨p1, p2, p3⟩
  · exact hK z _ (Or.inl rfl) hD
  · exact hK z t (Or.inr ⟨p1, p2⟩) (fun _ => hY t p1 p2 p3)
theorem c_X_sideLetter0 {b : Nat → Int} {n : Int} {l : List vl_I} {sL : Nat} {sx : Nat → Int32} (hsL : sL ≤ 3072) (d : Nat) (hd : 1640 ≤ d) : ∀ (k j i : Int) (s : sx_S) (K : Int → sx_S → Prop), cx_I s → (-2147483648 ≤ k ∧ k ≤ 2147483647) → (-2147483648 ≤ j ∧ j ≤ 2147483647) → (-2147483648 ≤ i ∧ i ≤ 2147483647) → (s.1 66 78 ≠ 0 → wr_D b n l s) → (∀ z t, (t = s ∨ (s.1 66 78 ≠ 0 ∧ rf_PP s t)) → (s.1 66 78 ≠ 0 → wr_D b n l t) → K z t) → sx_C sL sx d 218 [.inr (.inl 66), .inl k, .inl j, .inl i] s K := by
  intro k j i s K hI pk pj pi hD hK
  obtain ⟨E, g, ⟨hL, hKE⟩, h0, hS, hY⟩ := wr_ex hD
  refine c_e_sideLetter hL (hKE sL sx hsL) hsL d (by omega) h0 k j i s g K hI pk pj pi hS (fun z t _ hp => ?_)
  rcases hp with rfl | ⟨p1, p2, p3⟩
  · exact hK z _ (Or.inl rfl) hD
  · exact hK z t (Or.inr ⟨p1, p2⟩) (fun _ => hY t p1 p2 p3)
theorem wb_Sp_sz {a z : Int} {p : Nat → Int} {o : List Int} (h : wb_Sp a p o) (hz : (4000 < a ∧ z = -1) ∨ (a ≤ 4000 ∧ z = a)) : z = wy_sz o := by
  obtain ⟨h1, _⟩ := h
  unfold wy_sz
  by_cases c : o.length ≤ 4000
  · rw [if_pos c]
    omega
  · rw [if_neg c]
    omega
/-! a side -/
theorem w_x_side {CALL : sx_Ca} {sL : Nat} {sx : Nat → Int32} {Q : Nat → sx_L → sx_S → Prop} {R : Int → sx_S → Prop} {s : sx_S} {k i : Int} {PP : Int → sx_S → Prop} (hI : cx_I s) (pk : -2147483648 ≤ k ∧ k ≤ 2147483647) (pi : -2147483648 ≤ i ∧ i ≤ 2147483647) (hP : s.1 66 78 ≠ 0 → (0 ≤ k ∧ k < s.1 66 47) → (0 ≤ i ∧ i ≤ 1) → ∀ K : Int → sx_S → Prop, (∀ z t, PP z t → K z t) → CALL 213 [.inr (.inl 66), .inl k, .inl 1, .inl i] s K) (hK : ∀ z t, PP z t → R z t) (hN : ¬ (s.1 66 78 ≠ 0 ∧ (0 ≤ k ∧ k < s.1 66 47) ∧ 0 ≤ i ∧ i ≤ 1) → R (-1) s) : sx_wp true sL sx eX12_side CALL [] Q R 400 0 (sx_argsF 0 [.inr (.inl 66), .inl k, .inl i]) [] s := by
  repeat' (first | (with_reducible intro _) | (refine And.intro ?_ ?_) | (refine hN ?_) | (refine hK _ _ (by assumption)) | (refine hP ?_ ?_ ?_ _ ?_))
  all_goals (try dsimp only)
  all_goals (first | trivial | assumption | omega | (dsimp only at *; omega) | (simp only [sx_w_t] at *; omega) | (subst_vars; omega) | (subst_vars; assumption) | (subst_vars; dsimp only at *; omega) | (subst_vars; dsimp only at *; simp only [sx_w_t] at *; omega) | skip)
theorem c_X_side {b : Nat → Int} {n : Int} {l : List vl_I} {sL : Nat} {sx : Nat → Int32} (hsL : sL ≤ 3072) (d : Nat) (hd : 1640 ≤ d) : ∀ (k i : Int) (s : sx_S) (K : Int → sx_S → Prop), cx_I s → (-2147483648 ≤ k ∧ k ≤ 2147483647) → (-2147483648 ≤ i ∧ i ≤ 2147483647) → (s.1 66 78 ≠ 0 → wr_D b n l s) → (∀ z t, (-1 ≤ z ∧ z ≤ 4000) → (t = s ∨ (s.1 66 78 ≠ 0 ∧ rf_PP s t)) → (s.1 66 78 ≠ 0 → wr_D b n l t) → (((s.1 66 78 ≠ 0 ∧ (0 ≤ k ∧ k < s.1 66 47) ∧ 0 ≤ i ∧ i ≤ 1) ∧ ∃ o, wy_Os b n l k i o ∧ z = wy_sz o ∧ wb_Sp (t.1 66 86) (t.2.1 122) o) ∨ (¬ (s.1 66 78 ≠ 0 ∧ (0 ≤ k ∧ k < s.1 66 47) ∧ 0 ≤ i ∧ i ≤ 1) ∧ z = -1)) → K z t) → sx_C sL sx d 217 [.inr (.inl 66), .inl k, .inl i] s K := by
  intro k i s K hI pk pi hD hK
  obtain ⟨d, rfl⟩ : ∃ e, d = e + 2 := ⟨d - 2, by omega⟩
  by_cases c : s.1 66 78 ≠ 0
  · obtain ⟨TV, AR', tl, hY⟩ := hD c trivial
    obtain ⟨g, ht, th, AR, rk, S, hS, hZ, e45, har, hsd⟩ := hY trivial
    refine sx_meth (wr := true) (n := 400) hsL (e := eX12_side) rfl (w_x_side (Q := fun _ _ _ => False) (PP := fun z t => (-1 ≤ z ∧ z ≤ 4000) ∧ rf_PP s t ∧ wr_D b n l t ∧ ((0 ≤ k ∧ k < s.1 66 47) ∧ 0 ≤ i ∧ i ≤ 1) ∧ ∃ o, wy_Os b n l k i o ∧ z = wy_sz o ∧ wb_Sp (t.1 66 86) (t.2.1 122) o) hI pk pi (fun h1 h2 h3 K' hK' => c_e_papers (E := ((wb_E (wy_nm b n (vl_kf l []))).1, (wb_E (wy_nm b n (vl_kf l []))).2.1, ht, th, AR, rk)) (wb_L _) (wb_K _ hsL) hsL (d + 1) (by omega) wb_Sp_0 k 1 i s g K' hS (Or.inr ⟨rfl, h2⟩) pi (fun z t hz hp hs hpr => hK' z t ⟨hz, hp, ?_, ⟨h2, h3⟩, ?_⟩)) (fun z t h => hK z t h.1 (Or.inr ⟨c, h.2.1⟩) (fun _ => h.2.2.1) (Or.inl ⟨⟨c, h.2.2.2.1⟩, h.2.2.2.2⟩)) (fun q => hK (-1) s (by omega) (Or.inl rfl) hD (Or.inr ⟨q, rfl⟩)))
    · exact fun _ => ⟨TV, AR', tl, fun _ => ⟨g, ht, th, AR, rk, S, hs, hZ, wr_Y_p hp e45 har hsd⟩⟩
    · obtain ⟨Z, z1, z2, z3⟩ := hpr
      have z1' : wb_Sp (t.1 66 86) (t.2.1 122) Z.2 := z1
      refine ⟨Z.2, fun _ => ?_, wb_Sp_sz z1' z2, z1'⟩
      have hk : k.toNat < (vl_eq l [] []).length := by
        have := hsd.1
        omega
      have hpe := List.getElem?_eq_getElem hk
      obtain ⟨l1, l2⟩ := vs_tl_mk (hZ trivial).1.1
      obtain ⟨W, V, x, y, w1, w2, w3⟩ := l2 k.toNat _ hpe
      obtain ⟨s1, s2⟩ := hsd.2 k.toNat _ hpe
      have e45' : (s.1 66 45).toNat = (vl_mf l []).length := by omega
      have hg : vx_gd th := ((hZ trivial).1.2.1 trivial).2.2.1.1.1
      rcases z3 with ⟨z3, _⟩ | ⟨_, A, z4, _, _, z5⟩
      · exact absurd z3 (by decide)
      · have key : ∀ {N : px_N} {X : rf_N} {xx : qx_T} {zz : Int}, rf_no s A zz → wr_s1 (px_SN b n) ((vl_eq l [] [])[k.toNat]).1.1 ((vl_eq l [] [])[k.toNat]).1.2 N th AR s zz → (vl_tm (px_SN b n) ((vl_eq l [] [])[k.toNat]).1.1 ((vl_eq l [] [])[k.toNat]).1.2 TV AR' N).1 X [] [] xx → Z.2 = ((we_W (wk_E (wy_nm b n (vl_kf l [])) ht) (vx_val th AR' X (dv_lk []) 0)).1 0 (wz_al th (vl_mf l []).length, [])).2 := fun {N X xx zz} a1 a2 a3 => by
          obtain ⟨B, ⟨b1, b2⟩, b3⟩ := a2
          have eB : A = B := rf_nd_fun a1 b1
          subst eB
          have ev : vx_re (we_D s 0) (vx_val th AR (vr_1 A) (rf_look .leaf) (s.1 66 58)) = vx_val th AR' X (dv_lk []) 0 := by
            rw [vx_val_re hg (L' := 0) (fun j hj => by
              unfold we_D
              rw [if_neg (by omega)]
              omega), b2]
            exact b3 TV AR' X xx _ _ 0 a3
          have z5' : Z = (we_W (wk_E (wy_nm b n (vl_kf l [])) ht) (vx_re (we_D s 0) (vx_val th AR (vr_1 A) (rf_look .leaf) (s.1 66 58)))).1 0 (wz_al th (s.1 66 45).toNat, []) := z5
          rw [ev, e45'] at z5'
          rw [z5']
        by_cases q : i = 0
        · rw [if_pos q] at z4
          exact ⟨TV, AR', tl, S, th, ht, wy_nm b n (vl_kf l []), _, W, x, hZ, hpe, by rw [if_pos q]; exact w2, key z4 s1 w2⟩
        · rw [if_neg q] at z4
          exact ⟨TV, AR', tl, S, th, ht, wy_nm b n (vl_kf l []), _, V, y, hZ, hpe, by rw [if_neg q]; exact w3, key z4 s2 w3⟩
  · refine sx_meth (wr := true) (n := 400) hsL (e := eX12_side) rfl (w_x_side (Q := fun _ _ _ => False) (PP := fun _ _ => False) hI pk pi (fun h1 _ _ _ _ => absurd h1 c) (fun _ _ h => h.elim) (fun q => hK (-1) s (by omega) (Or.inl rfl) hD (Or.inr ⟨q, rfl⟩)))
