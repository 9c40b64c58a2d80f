section
/-! ===== the reference: what it answers of an unknown's value ===== -/
/-- what it holds after solving -/
def wr_D (b : Nat → Int) (n : Int) (l : List vl_I) (t : sx_S) : Prop := True → ∃ (TV : Int → qx_T → Prop) (AR' : Nat → List Int) (tl : vw_L), wr_Y (wb_E (wy_nm b n (vl_kf l []))) b n l TV AR' tl t
theorem we_S_k {Ω : Type} {E : we_E Ω} (hL : we_L E) {s t : sx_S} {g : rf_Gh} (hI : cx_I t) (hF : cx_F [(0, 67)] s t) (hf : rf_f [1] s t) (hS : we_S E s g) : we_S E t g := by
  have A : ∀ p, cx_outb [(0, 67)] p = true → t.2.1 p = s.2.1 p := fun p hp => (hF.same p hp).2
  have e9 := hf 9 rfl
  have e42 := hf 42 rfl
  have e50 := hf 50 rfl
  have e56 := hf 56 rfl
  have e58 := hf 58 rfl
  have e61 := hf 61 rfl
  have e64 := hf 64 rfl
  have e70 := hf 70 rfl
  have hE : rf_EX (s.1 66 71) (s.1 66 58) s t := ⟨⟨⟨e9, A 72 rfl, A 73 rfl, A 96 rfl, e42⟩, by omega, by omega, by omega, by omega, by omega⟩, fun j => ⟨fun _ => ⟨congrFun (A 100 rfl) j, congrFun (A 101 rfl) j, congrFun (A 102 rfl) j, congrFun (A 103 rfl) j, congrFun (A 104 rfl) j⟩, fun _ => congrFun (A 105 rfl) j, fun _ => congrFun (A 106 rfl) j, fun _ => ⟨congrFun (A 108 rfl) j, congrFun (A 109 rfl) j, fun _ => ⟨congrFun (A 111 rfl) j, congrFun (A 112 rfl) j, congrFun (A 113 rfl) j, congrFun (A 114 rfl) j⟩⟩, fun _ => congrFun (A 110 rfl) j, fun _ => ⟨congrFun (A 115 rfl) j, congrFun (A 116 rfl) j, congrFun (A 117 rfl) j⟩⟩⟩
  have hN : rf_NC s t := ⟨e61, fun j _ => congrFun (A 111 rfl) j⟩
  have hO : rf_OD t := rf_OD_same (hS trivial).1.1.2.2.2.2.2 e61 (hf 83 rfl) (hf 79 rfl) (fun p hp => by
    rcases hp with rfl | rfl | rfl | rfl
    · exact A 108 rfl
    · exact A 118 rfl
    · exact A 120 rfl
    · exact A 121 rfl)
  refine we_S_up hL hI hE hN hO (fun k hk => ?_) (fun p h1 h2 => ?_) ?_ hS
  · rcases hk with rfl | rfl | rfl | rfl | rfl | rfl | rfl | rfl | rfl <;> exact hf _ rfl
  · exact ((hF p).1 (fun q hq => by
      simp only [List.mem_cons, List.not_mem_nil, or_false] at hq
      rcases hq with rfl
      dsimp only
      omega)).2
  · refine we_N_same (hf 79 rfl) e61 (fun p hp => ?_) (hS trivial).2.2.1
    rcases hp with rfl | rfl | rfl | rfl
    · exact A 108 rfl
    · exact A 118 rfl
    · exact A 120 rfl
    · exact A 121 rfl
theorem wr_D_k {b : Nat → Int} {n : Int} {l : List vl_I} {s t : sx_S} (hI : cx_I t) (hF : cx_F [(0, 67)] s t) (hf : rf_f [1] s t) (h : wr_D b n l s) : wr_D b n l t := fun _ => by
  obtain ⟨TV, AR', tl, hY⟩ := h trivial
  obtain ⟨g, ht, th, AR, rk, S, hS, hZ, e45, har, hsd⟩ := hY trivial
  refine ⟨TV, AR', tl, fun _ => ⟨g, ht, th, AR, rk, S, we_S_k (show we_L ((wb_E (wy_nm b n (vl_kf l []))).1, (wb_E (wy_nm b n (vl_kf l []))).2.1, ht, th, AR, rk) from wb_L _) hI hF hf hS, hZ, (hf 45 rfl).trans e45, fun m m0 m1 => ?_, wr_sd_up (fun p j h1 h2 _ => ?_) (by rw [hf 50 rfl]; exact Int.le_refl _) (hf 47 rfl) (hF.same 98 rfl).2 (hF.same 99 rfl).2 hsd⟩⟩
  · have e : rf_aa t m = rf_aa s m := congrFun (hF.same 108 rfl).2 _
    rw [e]
    exact har m m0 m1
  · exact congrFun ((hF p).1 (fun q hq => by
      simp only [List.mem_cons, List.not_mem_nil, or_false] at hq
      rcases hq with rfl
      dsimp only
      omega)).2 j
theorem wr_D_d {b : Nat → Int} {n : Int} {l : List vl_I} {V : List (Nat × Nat)} {s t : sx_S} (hI : cx_I t) (hF : cx_F V s t) (hV : cx_le V [(0, 65)] = true) (h : wr_D b n l s) : wr_D b n l t := by
  have hF1 : cx_F [(0, 65)] s t := cx_F_step hF hV (cx_F_refl _ _)
  exact wr_D_k hI (cx_F_step hF1 rfl (cx_F_refl _ _)) (fun k _ => by rw [(hF1.same 66 rfl).1]) h
theorem wr_Y_p {b : Nat → Int} {n : Int} {l : List vl_I} {th : Int → rf_N} {AR : Nat → List Int} {s t : sx_S} (hp : rf_PP s t) (e45 : s.1 66 45 = ((vl_mf l []).length : Int)) (har : ∀ m, 0 ≤ m → m < ((vl_mf l []).length : Int) → rf_aa s m = vs_ra (vl_mf l []) m) (hsd : wr_sd b n l th AR s) : t.1 66 45 = ((vl_mf l []).length : Int) ∧ (∀ m, 0 ≤ m → m < ((vl_mf l []).length : Int) → rf_aa t m = vs_ra (vl_mf l []) m) ∧ wr_sd b n l th AR t := by
  obtain ⟨⟨_, a2, _⟩, p2, p3⟩ := hp
  refine ⟨(p3 45 rfl).trans e45, fun m m0 m1 => ?_, wr_sd_up (fun p j h1 h2 h3 => ?_) (by rw [p3 50 rfl]; exact Int.le_refl _) (p3 47 rfl) (p2.same 98 rfl).2 (p2.same 99 rfl).2 hsd⟩
  · have e : rf_aa t m = rf_aa s m := congrFun (p2.same 108 rfl).2 _
    rw [e]
    exact har m m0 m1
  · obtain ⟨d1, d2, d3, d4, _⟩ := (a2.2 j).1 h3
    have hc : p = 100 ∨ p = 101 ∨ p = 102 ∨ p = 103 := by omega
    rcases hc with rfl | rfl | rfl | rfl
    · exact d1
    · exact d2
    · exact d3
    · exact d4
theorem wb_Sp_0 (p : Nat → Int) : wb_Sp 0 p [] := ⟨Or.inl ⟨by decide, rfl⟩, fun i hi => absurd hi (Nat.not_lt_zero _)⟩
/-- for the calls that are not compared -/
theorem wr_ex {b : Nat → Int} {n : Int} {l : List vl_I} {s : sx_S} (h : s.1 66 78 ≠ 0 → wr_D b n l s) : ∃ (E : we_E (List Int)) (g : rf_Gh), (we_L E ∧ ∀ (sL : Nat) (sx : Nat → Int32), sL ≤ 3072 → we_K E sL sx) ∧ (∀ p : Nat → Int, E.2.1.1 0 p []) ∧ (s.1 66 78 ≠ 0 → we_S E s g) ∧ ∀ t, s.1 66 78 ≠ 0 → rf_PP s t → we_S E t g → wr_D b n l t := by
  by_cases c : s.1 66 78 ≠ 0
  · obtain ⟨TV, AR', tl, hY⟩ := h c trivial
    obtain ⟨g, ht, th, AR, rk, S, hS, hZ, e45, har, hsd⟩ := hY trivial
    refine ⟨((wb_E (wy_nm b n (vl_kf l []))).1, (wb_E (wy_nm b n (vl_kf l []))).2.1, ht, th, AR, rk), g, ⟨wb_L _, fun sL sx hsL => wb_K _ hsL⟩, wb_Sp_0, fun _ => hS, fun t _ hp hs => fun _ => ⟨TV, AR', tl, fun _ => ⟨g, ht, th, AR, rk, S, hs, hZ, wr_Y_p hp e45 har hsd⟩⟩⟩
  · exact ⟨wb_E (wy_nm b n (vl_kf l [])), rf_g0 s, ⟨wb_L _, fun sL sx hsL => wb_K _ hsL⟩, wb_Sp_0, fun q => absurd q c, fun t q => absurd q c⟩
theorem c_X_letter0 {b : Nat → Int} {n : Int} {l : List vl_I} {sL : Nat} {sx : Nat → Int32} (hsL : sL ≤ 3072) (d : Nat) (hd : 1640 ≤ d) : ∀ (k i : Int) (s : sx_S) (K : Int → sx_S → Prop), cx_I s → (-2147483648 ≤ k ∧ k ≤ 2147483647) → (-2147483648 ≤ i ∧ i ≤ 2147483647) → (s.1 66 78 ≠ 0 → wr_D b n l s) → (∀ z t, (t = s ∨ (s.1 66 78 ≠ 0 ∧ rf_PP s t)) → (s.1 66 78 ≠ 0 → wr_D b n l t) → K z t) → sx_C sL sx d 216 [.inr (.inl 66), .inl k, .inl i] s K := by
  intro k i s K hI pk pi hD hK
  obtain ⟨E, g, ⟨hL, hKE⟩, h0, hS, hY⟩ := wr_ex hD
  refine c_e_letter hL (hKE sL sx hsL) hsL d (by omega) h0 k i s g K hI pk pi hS (fun z t _ hp => ?_)
  rcases hp with rfl | ⟨p1, p2, p3⟩
  · exact hK z _ (Or.inl rfl) hD
  · exact hK z t (Or.inr ⟨p1, p2⟩) (fun _ => hY t p1 p2 p3)
theorem c_X_side0 {b : Nat → Int} {n : Int} {l : List vl_I} {sL : Nat} {sx : Nat → Int32} (hsL : sL ≤ 3072) (d : Nat) (hd : 1640 ≤ d) : ∀ (k i : Int) (s : sx_S) (K : Int → sx_S → Prop), cx_I s → (-2147483648 ≤ k ∧ k ≤ 2147483647) → (-2147483648 ≤ i ∧ i ≤ 2147483647) → (s.1 66 78 ≠ 0 → wr_D b n l s) → (∀ z t, (t = s ∨ (s.1 66 78 ≠ 0 ∧ rf_PP s t)) → (s.1 66 78 ≠ 0 → wr_D b n l t) → K z t) → sx_C sL sx d 217 [.inr (.inl 66), .inl k, .inl i] s K := by
  intro k i s K hI pk pi hD hK
  obtain ⟨E, g, ⟨hL, hKE⟩, h0, hS, hY⟩ := wr_ex hD
  refine c_e_side hL (hKE sL sx hsL) hsL d (by omega) h0 k i s g K hI pk pi hS (fun z t _ hp => ?_)
  rcases hp with rfl | ⟨p1, p2, p3⟩
  · exact hK z _ (Or.inl rfl) hD
  · exact hK z t (Or.inr ⟨p1, p2⟩) (fun _ => hY t p1 p2 p3)
theorem c_X_sideLetter0 {b : Nat → Int} {n : Int} {l : List vl_I} {sL : Nat} {sx : Nat → Int32} (hsL : sL ≤ 3072) (d : Nat) (hd : 1640 ≤ d) : ∀ (k j i : Int) (s : sx_S) (K : Int → sx_S → Prop), cx_I s → (-2147483648 ≤ k ∧ k ≤ 2147483647) → (-2147483648 ≤ j ∧ j ≤ 2147483647) → (-2147483648 ≤ i ∧ i ≤ 2147483647) → (s.1 66 78 ≠ 0 → wr_D b n l s) → (∀ z t, (t = s ∨ (s.1 66 78 ≠ 0 ∧ rf_PP s t)) → (s.1 66 78 ≠ 0 → wr_D b n l t) → K z t) → sx_C sL sx d 218 [.inr (.inl 66), .inl k, .inl j, .inl i] s K := by
  intro k j i s K hI pk pj pi hD hK
  obtain ⟨E, g, ⟨hL, hKE⟩, h0, hS, hY⟩ := wr_ex hD
  refine c_e_sideLetter hL (hKE sL sx hsL) hsL d (by omega) h0 k j i s g K hI pk pj pi hS (fun z t _ hp => ?_)
  rcases hp with rfl | ⟨p1, p2, p3⟩
  · exact hK z _ (Or.inl rfl) hD
  · exact hK z t (Or.inr ⟨p1, p2⟩) (fun _ => hY t p1 p2 p3)
/-! exactly -/
theorem w_x_size {CALL : sx_Ca} {sL : Nat} {sx : Nat → Int32} {Q : Nat → sx_L → sx_S → Prop} {R : Int → sx_S → Prop} {s : sx_S} {k : Int} {PP : Int → sx_S → Prop} (hI : cx_I s) (pk : -2147483648 ≤ k ∧ k ≤ 2147483647) (hP : s.1 66 78 ≠ 0 → (0 ≤ k ∧ k < s.1 66 45) → ∀ K : Int → sx_S → Prop, (∀ z t, PP z t → K z t) → CALL 213 [.inr (.inl 66), .inl k, .inl 0, .inl 0] s K) (hK : ∀ z t, PP z t → R z t) (hN : (s.1 66 78 = 0 ∨ k < 0 ∨ s.1 66 45 ≤ k) → R (-1) s) : sx_wp true sL sx eX12_size CALL [] Q R 400 0 (sx_argsF 0 [.inr (.inl 66), .inl k]) [] s := by
  repeat' (first | (with_reducible intro _) | (refine And.intro ?_ ?_) | (refine hN ?_) | (refine hK _ _ (by assumption)) | (refine hP ?_ ?_ _ ?_))
  all_goals (try dsimp only)
  all_goals (first | trivial | assumption | omega | (dsimp only at *; omega) | (simp only [sx_w_t] at *; omega) | (subst_vars; omega) | (subst_vars; assumption) | (subst_vars; dsimp only at *; omega) | (subst_vars; dsimp only at *; simp only [sx_w_t] at *; omega) | skip)
theorem wb_Sp_sz {a z : Int} {p : Nat → Int} {o : List Int} (h : wb_Sp a p o) (hz : (4000 < a ∧ z = -1) ∨ (a ≤ 4000 ∧ z = a)) : z = wy_sz o := by
  obtain ⟨h1, _⟩ := h
  unfold wy_sz
  by_cases c : o.length ≤ 4000
  · rw [if_pos c]
    omega
  · rw [if_neg c]
    omega
theorem c_X_size {b : Nat → Int} {n : Int} {l : List vl_I} {sL : Nat} {sx : Nat → Int32} (hsL : sL ≤ 3072) (d : Nat) (hd : 1640 ≤ d) : ∀ (k : Int) (s : sx_S) (K : Int → sx_S → Prop), cx_I s → (-2147483648 ≤ k ∧ k ≤ 2147483647) → (s.1 66 78 ≠ 0 → wr_D b n l s) → (∀ z t, (-1 ≤ z ∧ z ≤ 4000) → (t = s ∨ (s.1 66 78 ≠ 0 ∧ rf_PP s t)) → (s.1 66 78 ≠ 0 → wr_D b n l t) → (((s.1 66 78 ≠ 0 ∧ 0 ≤ k ∧ k < s.1 66 45) ∧ ∃ o, wy_O b n l k o ∧ z = wy_sz o ∧ wb_Sp (t.1 66 86) (t.2.1 122) o) ∨ (¬ (s.1 66 78 ≠ 0 ∧ 0 ≤ k ∧ k < s.1 66 45) ∧ z = -1)) → K z t) → sx_C sL sx d 215 [.inr (.inl 66), .inl k] s K := by
  intro k s K hI pk hD hK
  obtain ⟨d, rfl⟩ : ∃ e, d = e + 2 := ⟨d - 2, by omega⟩
  by_cases c : s.1 66 78 ≠ 0
  · obtain ⟨TV, AR', tl, hY⟩ := hD c trivial
    obtain ⟨g, ht, th, AR, rk, S, hS, hZ, e45, har, hsd⟩ := hY trivial
    refine sx_meth (wr := true) (n := 400) hsL (e := eX12_size) rfl (w_x_size (Q := fun _ _ _ => False) (PP := fun z t => (-1 ≤ z ∧ z ≤ 4000) ∧ rf_PP s t ∧ wr_D b n l t ∧ (0 ≤ k ∧ k < s.1 66 45) ∧ ∃ o, wy_O b n l k o ∧ z = wy_sz o ∧ wb_Sp (t.1 66 86) (t.2.1 122) o) hI pk (fun h1 h2 K' hK' => c_e_papers (E := ((wb_E (wy_nm b n (vl_kf l []))).1, (wb_E (wy_nm b n (vl_kf l []))).2.1, ht, th, AR, rk)) (wb_L _) (wb_K _ hsL) hsL (d + 1) (by omega) wb_Sp_0 k 0 0 s g K' hS (Or.inl ⟨rfl, h2⟩) (by omega) (fun z t hz hp hs hpr => hK' z t ⟨hz, hp, ?_, h2, ?_⟩)) (fun z t h => hK z t h.1 (Or.inr ⟨c, h.2.1⟩) (fun _ => h.2.2.1) (Or.inl ⟨⟨c, h.2.2.2.1⟩, h.2.2.2.2⟩)) (fun q => hK (-1) s (by omega) (Or.inl rfl) hD (Or.inr ⟨by omega, rfl⟩)))
    · exact fun _ => ⟨TV, AR', tl, fun _ => ⟨g, ht, th, AR, rk, S, hs, hZ, wr_Y_p hp e45 har hsd⟩⟩
    · obtain ⟨Z, z1, z2, z3⟩ := hpr
      have z1' : wb_Sp (t.1 66 86) (t.2.1 122) Z.2 := z1
      refine ⟨Z.2, fun _ => ?_, wb_Sp_sz z1' z2, z1'⟩
      have hk : k.toNat < (vl_mf l []).length := by omega
      have hp' := List.getElem?_eq_getElem hk
      refine ⟨TV, AR', tl, S, th, ht, wy_nm b n (vl_kf l []), (vl_mf l [])[k.toNat], hZ, hp', ?_⟩
      rcases z3 with ⟨_, z3⟩ | ⟨z3, _⟩
      · have ek : ((k.toNat : Nat) : Int) = k := Int.toNat_of_nonneg h2.1
        have ea : (rf_aa s k).toNat = (rf_args (qx_sh ((vl_mf l [])[k.toNat]).2)).length := by
          rw [har k h2.1 (by omega)]
          unfold vs_ra
          rw [hp']
          exact Int.toNat_natCast _
        have e45' : (s.1 66 45).toNat = (vl_mf l []).length := by omega
        have z3' : Z = (we_W (wk_E (wy_nm b n (vl_kf l [])) ht) (vq_lm (rf_aa s k).toNat (th k))).1 0 (wz_al th (s.1 66 45).toNat, []) := z3
        rw [ea, e45'] at z3'
        unfold wy_o
        rw [ek, z3']
      · exact absurd rfl z3
  · refine sx_meth (wr := true) (n := 400) hsL (e := eX12_size) rfl (w_x_size (Q := fun _ _ _ => False) (PP := fun _ _ => False) hI pk (fun h1 _ _ _ => absurd h1 c) (fun _ _ h => h.elim) (fun q => hK (-1) s (by omega) (Or.inl rfl) hD (Or.inr ⟨fun z => c z.1, rfl⟩)))
end
section
/-! ===== the law, piece by piece ===== -/
theorem rf_i32 (x : Int32) : -2147483648 ≤ x.toInt ∧ x.toInt ≤ 2147483647 := by
  have h1 := Int32.le_toInt x
  have h2 := Int32.toInt_lt x
  omega

set_option maxRecDepth 8000 in
theorem w_law_378 {CALL : sx_Ca} {sL : Nat} {sx : Nat → Int32} {Q : Nat → sx_L → sx_S → Prop} {R : Int → sx_S → Prop} {s : sx_S} {i : Int} (q : 0 ≤ i ∧ i ≤ 3072) (hQ : ∀ y : Int, y = i + 6 → Q 18 [(0, .inr (.inl 1000000)), (1, .inr (.inl 0)), (2, .inr (.inl 66)), (3, .inl y)] s) : sx_wp true sL sx eL_law CALL [(18, [0, 1, 2, 3]), (88, [0, 1, 2, 3]), (151, [0, 1, 2, 3]), (174, [0, 1, 2, 3]), (197, [0, 1, 2, 3]), (220, [0, 1, 2, 3]), (233, [0, 1, 2, 3]), (246, [0, 1, 2, 3]), (269, [0, 1, 2, 3]), (302, [0, 1, 2, 3]), (335, [0, 1, 2, 3]), (378, [0, 1, 2, 3])] Q R 400 378 [(0, .inr (.inl 1000000)), (1, .inr (.inl 0)), (2, .inr (.inl 66)), (3, .inl i)] [] s := by
  repeat' (first | (with_reducible intro _) | (refine And.intro ?_ ?_) | (refine hQ _ ?_))
  all_goals (try dsimp only)
  all_goals (first | trivial | assumption | omega | (dsimp only at *; omega) | (simp only [sx_w_t] at *; omega) | (subst_vars; omega) | (subst_vars; assumption) | (subst_vars; dsimp only at *; omega) | (subst_vars; dsimp only at *; simp only [sx_w_t] at *; omega) | skip)

set_option maxRecDepth 8000 in
theorem w_law_18 {CALL : sx_Ca} {sL : Nat} {sx : Nat → Int32} {Q : Nat → sx_L → sx_S → Prop} {R : Int → sx_S → Prop} {s : sx_S} {i : Int} (hsL : sL ≤ 3072) (q : 0 ≤ i ∧ i ≤ 3078) (hE : R 1 s) (hQ : i + 6 ≤ (sL : Int) → ∀ p : Nat, p ∈ [88, 151, 174, 197, 220, 233, 246, 269, 302, 335, 378] → Q p [(0, .inr (.inl 1000000)), (1, .inr (.inl 0)), (2, .inr (.inl 66)), (3, .inl i)] s) : sx_wp true sL sx eL_law CALL [(18, [0, 1, 2, 3]), (88, [0, 1, 2, 3]), (151, [0, 1, 2, 3]), (174, [0, 1, 2, 3]), (197, [0, 1, 2, 3]), (220, [0, 1, 2, 3]), (233, [0, 1, 2, 3]), (246, [0, 1, 2, 3]), (269, [0, 1, 2, 3]), (302, [0, 1, 2, 3]), (335, [0, 1, 2, 3]), (378, [0, 1, 2, 3])] Q R 400 18 [(0, .inr (.inl 1000000)), (1, .inr (.inl 0)), (2, .inr (.inl 66)), (3, .inl i)] [] s := by
  repeat' (first | (with_reducible intro _) | (refine And.intro ?_ ?_) | (exact hE) | ((refine hQ ?_ 88 ?_)) | ((refine hQ ?_ 151 ?_)) | ((refine hQ ?_ 174 ?_)) | ((refine hQ ?_ 197 ?_)) | ((refine hQ ?_ 220 ?_)) | ((refine hQ ?_ 233 ?_)) | ((refine hQ ?_ 246 ?_)) | ((refine hQ ?_ 269 ?_)) | ((refine hQ ?_ 302 ?_)) | ((refine hQ ?_ 335 ?_)) | ((refine hQ ?_ 378 ?_)))
  all_goals (try dsimp only)
  all_goals (first | trivial | decide | omega | (dsimp only at *; omega) | (simp only [sx_w_t] at *; omega) | (subst_vars; omega) | skip)

set_option maxRecDepth 8000 in
theorem w_law_174 {CALL : sx_Ca} {sL : Nat} {sx : Nat → Int32} {Q : Nat → sx_L → sx_S → Prop} {R : Int → sx_S → Prop} {s : sx_S} {i : Int} {PD : Int → sx_S → Prop} {PM : sx_S → sx_S → Prop} (q : 0 ≤ i ∧ i + 6 ≤ (sL : Int)) (hsL : sL ≤ 3072) (hD : ∀ a : Int, (-2147483648 ≤ a ∧ a ≤ 2147483647) → ∀ K : Int → sx_S → Prop, (∀ z t, PD z t → K z t) → CALL 139 [.inr (.inl 0), .inl a] s K) (hM : ∀ z t, PD z t → ∀ a : Int, (-2147483648 ≤ a ∧ a ≤ 2147483647) → ∀ K : Int → sx_S → Prop, (∀ z t2, PM t t2 → K z t2) → CALL 176 [.inr (.inl 66), .inl a] t K) (hQ : ∀ z t t2, PD z t → PM t t2 → Q 378 [(0, .inr (.inl 1000000)), (1, .inr (.inl 0)), (2, .inr (.inl 66)), (3, .inl i)] t2) : sx_wp true sL sx eL_law CALL [(18, [0, 1, 2, 3]), (88, [0, 1, 2, 3]), (151, [0, 1, 2, 3]), (174, [0, 1, 2, 3]), (197, [0, 1, 2, 3]), (220, [0, 1, 2, 3]), (233, [0, 1, 2, 3]), (246, [0, 1, 2, 3]), (269, [0, 1, 2, 3]), (302, [0, 1, 2, 3]), (335, [0, 1, 2, 3]), (378, [0, 1, 2, 3])] Q R 400 174 [(0, .inr (.inl 1000000)), (1, .inr (.inl 0)), (2, .inr (.inl 66)), (3, .inl i)] [] s := by
  repeat' (first | (with_reducible intro _) | (refine And.intro ?_ ?_) | (refine hQ _ _ _ (by assumption) (by assumption)) | (refine hM _ _ (by assumption) _ ?_ _ ?_) | (refine hD _ ?_ _ ?_))
  all_goals (try dsimp only)
  all_goals (first | trivial | assumption | omega | (exact rf_i32 _) | (exact (rf_i32 _).1) | (exact (rf_i32 _).2) | (dsimp only at *; omega) | (simp only [sx_w_t] at *; omega) | (subst_vars; omega) | skip)

set_option maxRecDepth 8000 in
theorem w_law_197 {CALL : sx_Ca} {sL : Nat} {sx : Nat → Int32} {Q : Nat → sx_L → sx_S → Prop} {R : Int → sx_S → Prop} {s : sx_S} {i : Int} {PD : Int → sx_S → Prop} {PM : sx_S → sx_S → Prop} (q : 0 ≤ i ∧ i + 6 ≤ (sL : Int)) (hsL : sL ≤ 3072) (hD : ∀ a : Int, (-2147483648 ≤ a ∧ a ≤ 2147483647) → ∀ K : Int → sx_S → Prop, (∀ z t, PD z t → K z t) → CALL 140 [.inr (.inl 0), .inl a] s K) (hM : ∀ z t, PD z t → ∀ a : Int, (-2147483648 ≤ a ∧ a ≤ 2147483647) → ∀ K : Int → sx_S → Prop, (∀ z t2, PM t t2 → K z t2) → CALL 177 [.inr (.inl 66), .inl a] t K) (hQ : ∀ z t t2, PD z t → PM t t2 → Q 378 [(0, .inr (.inl 1000000)), (1, .inr (.inl 0)), (2, .inr (.inl 66)), (3, .inl i)] t2) : sx_wp true sL sx eL_law CALL [(18, [0, 1, 2, 3]), (88, [0, 1, 2, 3]), (151, [0, 1, 2, 3]), (174, [0, 1, 2, 3]), (197, [0, 1, 2, 3]), (220, [0, 1, 2, 3]), (233, [0, 1, 2, 3]), (246, [0, 1, 2, 3]), (269, [0, 1, 2, 3]), (302, [0, 1, 2, 3]), (335, [0, 1, 2, 3]), (378, [0, 1, 2, 3])] Q R 400 197 [(0, .inr (.inl 1000000)), (1, .inr (.inl 0)), (2, .inr (.inl 66)), (3, .inl i)] [] s := by
  repeat' (first | (with_reducible intro _) | (refine And.intro ?_ ?_) | (refine hQ _ _ _ (by assumption) (by assumption)) | (refine hM _ _ (by assumption) _ ?_ _ ?_) | (refine hD _ ?_ _ ?_))
  all_goals (try dsimp only)
  all_goals (first | trivial | assumption | omega | (exact rf_i32 _) | (exact (rf_i32 _).1) | (exact (rf_i32 _).2) | (dsimp only at *; omega) | (simp only [sx_w_t] at *; omega) | (subst_vars; omega) | skip)

set_option maxRecDepth 8000 in
theorem w_law_220 {CALL : sx_Ca} {sL : Nat} {sx : Nat → Int32} {Q : Nat → sx_L → sx_S → Prop} {R : Int → sx_S → Prop} {s : sx_S} {i : Int} {PD : Int → sx_S → Prop} {PM : sx_S → sx_S → Prop} (q : 0 ≤ i ∧ i + 6 ≤ (sL : Int)) (hsL : sL ≤ 3072) (hD : ∀ K : Int → sx_S → Prop, (∀ z t, PD z t → K z t) → CALL 141 [.inr (.inl 0)] s K) (hM : ∀ z t, PD z t → ∀ K : Int → sx_S → Prop, (∀ z t2, PM t t2 → K z t2) → CALL 201 [.inr (.inl 66)] t K) (hQ : ∀ z t t2, PD z t → PM t t2 → Q 378 [(0, .inr (.inl 1000000)), (1, .inr (.inl 0)), (2, .inr (.inl 66)), (3, .inl i)] t2) : sx_wp true sL sx eL_law CALL [(18, [0, 1, 2, 3]), (88, [0, 1, 2, 3]), (151, [0, 1, 2, 3]), (174, [0, 1, 2, 3]), (197, [0, 1, 2, 3]), (220, [0, 1, 2, 3]), (233, [0, 1, 2, 3]), (246, [0, 1, 2, 3]), (269, [0, 1, 2, 3]), (302, [0, 1, 2, 3]), (335, [0, 1, 2, 3]), (378, [0, 1, 2, 3])] Q R 400 220 [(0, .inr (.inl 1000000)), (1, .inr (.inl 0)), (2, .inr (.inl 66)), (3, .inl i)] [] s := by
  repeat' (first | (with_reducible intro _) | (refine And.intro ?_ ?_) | (refine hQ _ _ _ (by assumption) (by assumption)) | (refine hM _ _ (by assumption)   _ ?_) | (refine hD   _ ?_))
  all_goals (try dsimp only)
  all_goals (first | trivial | assumption | omega | (exact rf_i32 _) | (exact (rf_i32 _).1) | (exact (rf_i32 _).2) | (dsimp only at *; omega) | (simp only [sx_w_t] at *; omega) | (subst_vars; omega) | skip)

set_option maxRecDepth 8000 in
theorem w_law_sz {CALL : sx_Ca} {sL : Nat} {sx : Nat → Int32} {Q : Nat → sx_L → sx_S → Prop} {R : Int → sx_S → Prop} {s : sx_S} {i : Int} {PD : Int → sx_S → Prop} {PM : Int → sx_S → Int → sx_S → Prop} (q : 0 ≤ i ∧ i + 6 ≤ (sL : Int)) (hsL : sL ≤ 3072) (hD : ∀ a : Int, a = (sx (i + 1).toNat).toInt → (-2147483648 ≤ a ∧ a ≤ 2147483647) → ∀ K : Int → sx_S → Prop, (∀ z t, PD z t → K z t) → CALL 143 [.inr (.inl 0), .inl a] s K) (hM : ∀ z t, PD z t → ∀ a : Int, a = (sx (i + 1).toNat).toInt → (-2147483648 ≤ a ∧ a ≤ 2147483647) → ∀ K : Int → sx_S → Prop, (∀ z2 t2, PM z t z2 t2 → K z2 t2) → CALL 215 [.inr (.inl 66), .inl a] t K) (hS : ∀ z t z2 t2, PD z t → PM z t z2 t2 → z = z2 ∧ (-2147483648 ≤ z ∧ z ≤ 2147483647)) (hQ : ∀ z t z2 t2, PD z t → PM z t z2 t2 → Q 378 [(0, .inr (.inl 1000000)), (1, .inr (.inl 0)), (2, .inr (.inl 66)), (3, .inl i)] t2) : sx_wp true sL sx eL_law CALL [(18, [0, 1, 2, 3]), (88, [0, 1, 2, 3]), (151, [0, 1, 2, 3]), (174, [0, 1, 2, 3]), (197, [0, 1, 2, 3]), (220, [0, 1, 2, 3]), (233, [0, 1, 2, 3]), (246, [0, 1, 2, 3]), (269, [0, 1, 2, 3]), (302, [0, 1, 2, 3]), (335, [0, 1, 2, 3]), (378, [0, 1, 2, 3])] Q R 400 246 [(0, .inr (.inl 1000000)), (1, .inr (.inl 0)), (2, .inr (.inl 66)), (3, .inl i)] [] s := by
  have e1 : sx_w true (i + 1) = i + 1 := rf_wid (by omega) (by omega)
  repeat' (first | (with_reducible intro _) | (refine And.intro ?_ ?_) | (refine hQ _ _ _ _ (by assumption) (by assumption)) | (refine hM _ _ (by assumption) _ ?_ ?_ _ ?_) | (refine hD _ ?_ ?_ _ ?_))
  all_goals (try dsimp only)
  all_goals (first | trivial | assumption | omega | (exact rf_i32 _) | (exact (rf_i32 _).1) | (exact (rf_i32 _).2) | rfl | (subst_vars; rfl) | (rw [e1]) | (dsimp only; rw [e1]) | (subst_vars; dsimp only at *; rw [e1]) | (exfalso; have hs := hS _ _ _ _ (by assumption) (by assumption); omega) | (have hs := hS _ _ _ _ (by assumption) (by assumption); omega) | (dsimp only at *; omega) | (simp only [sx_w_t] at *; omega) | (subst_vars; omega) | skip)
set_option maxRecDepth 8000 in
theorem w_law_269 {CALL : sx_Ca} {sL : Nat} {sx : Nat → Int32} {Q : Nat → sx_L → sx_S → Prop} {R : Int → sx_S → Prop} {s : sx_S} {i : Int} {PD : Int → sx_S → Prop} {PM : sx_S → sx_S → Prop} (q : 0 ≤ i ∧ i + 6 ≤ (sL : Int)) (hsL : sL ≤ 3072) (hD : ∀ a b : Int, (-2147483648 ≤ a ∧ a ≤ 2147483647) → (-2147483648 ≤ b ∧ b ≤ 2147483647) → ∀ K : Int → sx_S → Prop, (∀ z t, PD z t → K z t) → CALL 144 [.inr (.inl 0), .inl a, .inl b] s K) (hM : ∀ z t, PD z t → ∀ a b : Int, (-2147483648 ≤ a ∧ a ≤ 2147483647) → (-2147483648 ≤ b ∧ b ≤ 2147483647) → ∀ K : Int → sx_S → Prop, (∀ z t2, PM t t2 → K z t2) → CALL 216 [.inr (.inl 66), .inl a, .inl b] t K) (hQ : ∀ z t t2, PD z t → PM t t2 → Q 378 [(0, .inr (.inl 1000000)), (1, .inr (.inl 0)), (2, .inr (.inl 66)), (3, .inl i)] t2) : sx_wp true sL sx eL_law CALL [(18, [0, 1, 2, 3]), (88, [0, 1, 2, 3]), (151, [0, 1, 2, 3]), (174, [0, 1, 2, 3]), (197, [0, 1, 2, 3]), (220, [0, 1, 2, 3]), (233, [0, 1, 2, 3]), (246, [0, 1, 2, 3]), (269, [0, 1, 2, 3]), (302, [0, 1, 2, 3]), (335, [0, 1, 2, 3]), (378, [0, 1, 2, 3])] Q R 400 269 [(0, .inr (.inl 1000000)), (1, .inr (.inl 0)), (2, .inr (.inl 66)), (3, .inl i)] [] s := by
  repeat' (first | (with_reducible intro _) | (refine And.intro ?_ ?_) | (refine hQ _ _ _ (by assumption) (by assumption)) | (refine hM _ _ (by assumption) _ _ ?_ ?_ _ ?_) | (refine hD _ _ ?_ ?_ _ ?_))
  all_goals (try dsimp only)
  all_goals (first | trivial | assumption | omega | (exact rf_i32 _) | (exact (rf_i32 _).1) | (exact (rf_i32 _).2) | (dsimp only at *; omega) | (simp only [sx_w_t] at *; omega) | (subst_vars; omega) | skip)

set_option maxRecDepth 8000 in
theorem w_law_302 {CALL : sx_Ca} {sL : Nat} {sx : Nat → Int32} {Q : Nat → sx_L → sx_S → Prop} {R : Int → sx_S → Prop} {s : sx_S} {i : Int} {PD : Int → sx_S → Prop} {PM : sx_S → sx_S → Prop} (q : 0 ≤ i ∧ i + 6 ≤ (sL : Int)) (hsL : sL ≤ 3072) (hD : ∀ a b : Int, (-2147483648 ≤ a ∧ a ≤ 2147483647) → (-2147483648 ≤ b ∧ b ≤ 2147483647) → ∀ K : Int → sx_S → Prop, (∀ z t, PD z t → K z t) → CALL 145 [.inr (.inl 0), .inl a, .inl b] s K) (hM : ∀ z t, PD z t → ∀ a b : Int, (-2147483648 ≤ a ∧ a ≤ 2147483647) → (-2147483648 ≤ b ∧ b ≤ 2147483647) → ∀ K : Int → sx_S → Prop, (∀ z t2, PM t t2 → K z t2) → CALL 217 [.inr (.inl 66), .inl a, .inl b] t K) (hQ : ∀ z t t2, PD z t → PM t t2 → Q 378 [(0, .inr (.inl 1000000)), (1, .inr (.inl 0)), (2, .inr (.inl 66)), (3, .inl i)] t2) : sx_wp true sL sx eL_law CALL [(18, [0, 1, 2, 3]), (88, [0, 1, 2, 3]), (151, [0, 1, 2, 3]), (174, [0, 1, 2, 3]), (197, [0, 1, 2, 3]), (220, [0, 1, 2, 3]), (233, [0, 1, 2, 3]), (246, [0, 1, 2, 3]), (269, [0, 1, 2, 3]), (302, [0, 1, 2, 3]), (335, [0, 1, 2, 3]), (378, [0, 1, 2, 3])] Q R 400 302 [(0, .inr (.inl 1000000)), (1, .inr (.inl 0)), (2, .inr (.inl 66)), (3, .inl i)] [] s := by
  repeat' (first | (with_reducible intro _) | (refine And.intro ?_ ?_) | (refine hQ _ _ _ (by assumption) (by assumption)) | (refine hM _ _ (by assumption) _ _ ?_ ?_ _ ?_) | (refine hD _ _ ?_ ?_ _ ?_))
  all_goals (try dsimp only)
  all_goals (first | trivial | assumption | omega | (exact rf_i32 _) | (exact (rf_i32 _).1) | (exact (rf_i32 _).2) | (dsimp only at *; omega) | (simp only [sx_w_t] at *; omega) | (subst_vars; omega) | skip)

set_option maxRecDepth 8000 in
theorem w_law_335 {CALL : sx_Ca} {sL : Nat} {sx : Nat → Int32} {Q : Nat → sx_L → sx_S → Prop} {R : Int → sx_S → Prop} {s : sx_S} {i : Int} {PD : Int → sx_S → Prop} {PM : sx_S → sx_S → Prop} (q : 0 ≤ i ∧ i + 6 ≤ (sL : Int)) (hsL : sL ≤ 3072) (hD : ∀ a b c : Int, (-2147483648 ≤ a ∧ a ≤ 2147483647) → (-2147483648 ≤ b ∧ b ≤ 2147483647) → (-2147483648 ≤ c ∧ c ≤ 2147483647) → ∀ K : Int → sx_S → Prop, (∀ z t, PD z t → K z t) → CALL 146 [.inr (.inl 0), .inl a, .inl b, .inl c] s K) (hM : ∀ z t, PD z t → ∀ a b c : Int, (-2147483648 ≤ a ∧ a ≤ 2147483647) → (-2147483648 ≤ b ∧ b ≤ 2147483647) → (-2147483648 ≤ c ∧ c ≤ 2147483647) → ∀ K : Int → sx_S → Prop, (∀ z t2, PM t t2 → K z t2) → CALL 218 [.inr (.inl 66), .inl a, .inl b, .inl c] t K) (hQ : ∀ z t t2, PD z t → PM t t2 → Q 378 [(0, .inr (.inl 1000000)), (1, .inr (.inl 0)), (2, .inr (.inl 66)), (3, .inl i)] t2) : sx_wp true sL sx eL_law CALL [(18, [0, 1, 2, 3]), (88, [0, 1, 2, 3]), (151, [0, 1, 2, 3]), (174, [0, 1, 2, 3]), (197, [0, 1, 2, 3]), (220, [0, 1, 2, 3]), (233, [0, 1, 2, 3]), (246, [0, 1, 2, 3]), (269, [0, 1, 2, 3]), (302, [0, 1, 2, 3]), (335, [0, 1, 2, 3]), (378, [0, 1, 2, 3])] Q R 400 335 [(0, .inr (.inl 1000000)), (1, .inr (.inl 0)), (2, .inr (.inl 66)), (3, .inl i)] [] s := by
  repeat' (first | (with_reducible intro _) | (refine And.intro ?_ ?_) | (refine hQ _ _ _ (by assumption) (by assumption)) | (refine hM _ _ (by assumption) _ _ _ ?_ ?_ ?_ _ ?_) | (refine hD _ _ _ ?_ ?_ ?_ _ ?_))
  all_goals (try dsimp only)
  all_goals (first | trivial | assumption | omega | (exact rf_i32 _) | (exact (rf_i32 _).1) | (exact (rf_i32 _).2) | (dsimp only at *; omega) | (simp only [sx_w_t] at *; omega) | (subst_vars; omega) | skip)

set_option maxRecDepth 8000 in
theorem w_law_fd {CALL : sx_Ca} {sL : Nat} {sx : Nat → Int32} {Q : Nat → sx_L → sx_S → Prop} {R : Int → sx_S → Prop} {s : sx_S} {i : Int} {PD : sx_S → Prop} {PM : sx_S → sx_S → Prop} (q : 0 ≤ i ∧ i + 6 ≤ (sL : Int)) (hsL : sL ≤ 3072) (hD : ∀ a b c e f : Int, a = (sx (i + 1).toNat).toInt → b = (sx (i + 2).toNat).toInt → c = (sx (i + 3).toNat).toInt → e = (sx (i + 4).toNat).toInt → f = (sx (i + 5).toNat).toInt → ∀ K : Int → sx_S → Prop, (∀ z t, PD t → K z t) → CALL 137 [.inr (.inl 0), .inl a, .inl b, .inl c, .inl e, .inl f] s K) (hM : ∀ t, PD t → ∀ a b c e f : Int, a = (sx (i + 1).toNat).toInt → b = (sx (i + 2).toNat).toInt → c = (sx (i + 3).toNat).toInt → e = (sx (i + 4).toNat).toInt → f = (sx (i + 5).toNat).toInt → ∀ K : Int → sx_S → Prop, (∀ z t2, PM t t2 → K z t2) → CALL 150 [.inr (.inl 66), .inl a, .inl b, .inl c, .inl e, .inl f] t K) (hQ : ∀ t t2, PD t → PM t t2 → Q 378 [(0, .inr (.inl 1000000)), (1, .inr (.inl 0)), (2, .inr (.inl 66)), (3, .inl i)] t2) : sx_wp true sL sx eL_law CALL [(18, [0, 1, 2, 3]), (88, [0, 1, 2, 3]), (151, [0, 1, 2, 3]), (174, [0, 1, 2, 3]), (197, [0, 1, 2, 3]), (220, [0, 1, 2, 3]), (233, [0, 1, 2, 3]), (246, [0, 1, 2, 3]), (269, [0, 1, 2, 3]), (302, [0, 1, 2, 3]), (335, [0, 1, 2, 3]), (378, [0, 1, 2, 3])] Q R 400 88 [(0, .inr (.inl 1000000)), (1, .inr (.inl 0)), (2, .inr (.inl 66)), (3, .inl i)] [] s := by
  have e1 : sx_w true (i + 1) = i + 1 := rf_wid (by omega) (by omega)
  have e2 : sx_w true (i + 2) = i + 2 := rf_wid (by omega) (by omega)
  have e3 : sx_w true (i + 3) = i + 3 := rf_wid (by omega) (by omega)
  have e4 : sx_w true (i + 4) = i + 4 := rf_wid (by omega) (by omega)
  have e5 : sx_w true (i + 5) = i + 5 := rf_wid (by omega) (by omega)
  repeat' (first | (with_reducible intro _) | (refine And.intro ?_ ?_) | (refine hQ _ _ (by assumption) (by assumption)) | (refine hM _ (by assumption) _ _ _ _ _ ?_ ?_ ?_ ?_ ?_ _ ?_) | (refine hD _ _ _ _ _ ?_ ?_ ?_ ?_ ?_ _ ?_))
  all_goals (try dsimp only)
  all_goals (first | trivial | assumption | omega | (exact rf_i32 _) | (exact (rf_i32 _).1) | (exact (rf_i32 _).2) | rfl | (subst_vars; rfl) | (rw [e1]; done) | (rw [e2]; done) | (rw [e3]; done) | (rw [e4]; done) | (rw [e5]; done) | (subst_vars; dsimp only at *; first | (rw [e1]; done) | (rw [e2]; done) | (rw [e3]; done) | (rw [e4]; done) | (rw [e5]; done)) | (dsimp only at *; omega) | (simp only [sx_w_t] at *; omega) | (subst_vars; omega) | skip)

set_option maxRecDepth 8000 in
theorem w_law_load {CALL : sx_Ca} {sL : Nat} {sx : Nat → Int32} {Q : Nat → sx_L → sx_S → Prop} {R : Int → sx_S → Prop} {s : sx_S} {i : Int} {PD : sx_S → Prop} {PM : sx_S → sx_S → Prop} (q : 0 ≤ i ∧ i + 6 ≤ (sL : Int)) (hsL : sL ≤ 3072) (hD : ∀ a : Int, a = (sx (i + 1).toNat).toInt → (-2147483648 ≤ a ∧ a ≤ 2147483647) → ∀ K : Int → sx_S → Prop, (∀ z t, PD t → K z t) → CALL 138 [.inr (.inl 0), .inl a] s K) (hM : ∀ t, PD t → ∀ a : Int, a = (sx (i + 1).toNat).toInt → (-2147483648 ≤ a ∧ a ≤ 2147483647) → ∀ K : Int → sx_S → Prop, (∀ z t2, PM t t2 → K z t2) → CALL 175 [.inr (.inl 66), .inl a] t K) (hQ : ∀ t t2, PD t → PM t t2 → Q 378 [(0, .inr (.inl 1000000)), (1, .inr (.inl 0)), (2, .inr (.inl 66)), (3, .inl i)] t2) : sx_wp true sL sx eL_law CALL [(18, [0, 1, 2, 3]), (88, [0, 1, 2, 3]), (151, [0, 1, 2, 3]), (174, [0, 1, 2, 3]), (197, [0, 1, 2, 3]), (220, [0, 1, 2, 3]), (233, [0, 1, 2, 3]), (246, [0, 1, 2, 3]), (269, [0, 1, 2, 3]), (302, [0, 1, 2, 3]), (335, [0, 1, 2, 3]), (378, [0, 1, 2, 3])] Q R 400 151 [(0, .inr (.inl 1000000)), (1, .inr (.inl 0)), (2, .inr (.inl 66)), (3, .inl i)] [] s := by
  have e1 : sx_w true (i + 1) = i + 1 := rf_wid (by omega) (by omega)
  repeat' (first | (with_reducible intro _) | (refine And.intro ?_ ?_) | (refine hQ _ _ (by assumption) (by assumption)) | (refine hM _ (by assumption) _ ?_ ?_ _ ?_) | (refine hD _ ?_ ?_ _ ?_))
  all_goals (try dsimp only)
  all_goals (first | trivial | assumption | omega | (exact rf_i32 _) | (exact (rf_i32 _).1) | (exact (rf_i32 _).2) | rfl | (subst_vars; rfl) | (rw [e1]) | (dsimp only; rw [e1]) | (subst_vars; dsimp only at *; rw [e1]) | (dsimp only at *; omega) | (simp only [sx_w_t] at *; omega) | (subst_vars; omega) | skip)

set_option maxRecDepth 8000 in
theorem w_law_233 {CALL : sx_Ca} {sL : Nat} {sx : Nat → Int32} {Q : Nat → sx_L → sx_S → Prop} {R : Int → sx_S → Prop} {s : sx_S} {i : Int} {PD : Int → sx_S → Prop} {PM : sx_S → sx_S → Prop} (q : 0 ≤ i ∧ i + 6 ≤ (sL : Int)) (hsL : sL ≤ 3072) (hD : ∀ K : Int → sx_S → Prop, (∀ z t, PD z t → K z t) → CALL 142 [.inr (.inl 0)] s K) (hM : ∀ z t, PD z t → ∀ K : Int → sx_S → Prop, (∀ z t2, PM t t2 → K z t2) → CALL 214 [.inr (.inl 66)] t K) (hQ : ∀ z t t2, PD z t → PM t t2 → Q 378 [(0, .inr (.inl 1000000)), (1, .inr (.inl 0)), (2, .inr (.inl 66)), (3, .inl i)] t2) : sx_wp true sL sx eL_law CALL [(18, [0, 1, 2, 3]), (88, [0, 1, 2, 3]), (151, [0, 1, 2, 3]), (174, [0, 1, 2, 3]), (197, [0, 1, 2, 3]), (220, [0, 1, 2, 3]), (233, [0, 1, 2, 3]), (246, [0, 1, 2, 3]), (269, [0, 1, 2, 3]), (302, [0, 1, 2, 3]), (335, [0, 1, 2, 3]), (378, [0, 1, 2, 3])] Q R 400 233 [(0, .inr (.inl 1000000)), (1, .inr (.inl 0)), (2, .inr (.inl 66)), (3, .inl i)] [] s := by
  repeat' (first | (with_reducible intro _) | (refine And.intro ?_ ?_) | (refine hQ _ _ _ (by assumption) (by assumption)) | (refine hM _ _ (by assumption)   _ ?_) | (refine hD   _ ?_))
  all_goals (try dsimp only)
  all_goals (first | trivial | assumption | omega | (exact rf_i32 _) | (exact (rf_i32 _).1) | (exact (rf_i32 _).2) | (dsimp only at *; omega) | (simp only [sx_w_t] at *; omega) | (subst_vars; omega) | skip)
end
section
/-! ===== the law: what holds between its calls ===== -/
theorem wr_C_cg {b c : Nat → Int} {n : Int} {l : List vl_I} {s : sx_S} (h : ∀ k : Nat, (k : Int) < n → b k = c k) (g : wr_C b n l s) : wr_C c n l s := fun _ => by
  obtain ⟨bb, mt, h1, h2⟩ := g trivial
  exact ⟨bb, mt, fun k hk => (h1 k hk).trans (h k hk), h2⟩
theorem wr_C_45 {b : Nat → Int} {n : Int} {l : List vl_I} {s : sx_S} (h : wr_C b n l s) : s.1 66 45 = ((vl_mf l []).length : Int) := by
  obtain ⟨bb, mt, _, h2⟩ := h trivial
  exact (((h2 trivial).2.2) trivial).1.symm
theorem dk_LD_tx {b : Nat → Int} {n : Int} {l : List vl_I} {s : sx_S} (hI : cx_I s) (h : dk_LD b n l s) : ∃ (TV : Int → qx_T → Prop) (AR : Nat → List Int) (tl : vw_L), vl_tx (px_SN b n) TV AR l [] [] tl ∧ wy_V b n l TV := by
  obtain ⟨⟨n0, n240⟩, hX, hck, ⟨bb, hE⟩, hpr, h6, h10⟩ := ((h trivial).1 trivial).1 trivial
  obtain ⟨tl, _, x2, _⟩ := dl_X hI n0 hX hck hE hpr h6 h10
  exact ⟨_, _, tl, x2, ⟨dl_tv s, fun v T h => dl_tv_eq h⟩, hck⟩
theorem wk_D_22 {b : Nat → Int} {n : Int} {l : List vl_I} {s : sx_S} (h : wk_D b n l s) : s.1 22 2 = ((vl_mf l []).length : Int) := by
  obtain ⟨_, _, _, _, _, _, _, _, _, _, _, _, _, _, _, _, q, _⟩ := h trivial
  exact q.1
theorem wk_D_18 {b : Nat → Int} {n : Int} {l : List vl_I} {s : sx_S} (h : wk_D b n l s) : s.1 18 10 = ((vl_eq l [] []).length : Int) := by
  obtain ⟨_, _, _, _, _, _, _, _, _, _, _, _, _, z1, _, _, _, q, _⟩ := h trivial
  have := (vs_tl_mk (z1 trivial).1.1).1
  omega
theorem wr_D_47 {b : Nat → Int} {n : Int} {l : List vl_I} {s : sx_S} (h : wr_D b n l s) : s.1 66 47 = ((vl_eq l [] []).length : Int) := by
  obtain ⟨_, _, _, hY⟩ := h trivial
  obtain ⟨_, _, _, _, _, _, _, _, _, _, hsd⟩ := hY trivial
  exact hsd.1
/-- what both hold of one text -/
def wv_T (b : Nat → Int) (n : Int) (l : List vl_I) (s : sx_S) : Prop := True → (vk_LD b n l (rf_l0 s) ∧ wr_C b n l s) ∧ (∃ (TV : Int → qx_T → Prop) (AR : Nat → List Int) (tl : vw_L), vl_tx (px_SN b n) TV AR l [] [] tl ∧ wy_V b n l TV) ∧ ((s.1 0 3 = -1 ∧ dk_LD b n l s ∧ s.1 66 78 = 0) ∨ (s.1 0 3 = 0 ∧ vl_sat (px_SN b n) l ∧ wk_D b n l s ∧ s.1 66 78 ≠ 0 ∧ wr_D b n l s) ∨ (s.1 0 3 = 1 ∧ ¬ vl_sat (px_SN b n) l ∧ s.1 66 78 = 0))
def wv_W (b : Nat → Int) (n : Int) (l : List vl_I) (s : sx_S) : Prop := s.1 0 2 = s.1 66 37 ∧ (s.1 0 2 ≠ 0 → wv_T b n l s) ∧ (s.1 0 2 = 0 → s.1 66 78 = 0)
def wv_X (s : sx_S) : Prop := ∃ (b : Nat → Int) (n : Int) (l : List vl_I), wv_W b n l s
/-- a call that leaves it -/
def wv_K (b : Nat → Int) (n : Int) (l : List vl_I) (s t : sx_S) : Prop := True → vz_K s t ∧ t.1 66 78 = s.1 66 78 ∧ (wr_C b n l s → wr_C b n l t) ∧ (s.1 66 78 ≠ 0 → wr_D b n l s → wr_D b n l t) ∧ (s.1 0 2 ≠ 0 → s.1 0 3 = 0 → wk_D b n l s → wk_D b n l t)
section
variable {b : Nat → Int} {n : Int} {l : List vl_I}
theorem wv_K_0 (s : sx_S) : wv_K b n l s s := fun _ => ⟨vz_K_0 s, rfl, fun h => h, fun _ h => h, fun _ _ h => h⟩
theorem wv_K_t {s t u : sx_S} (h2 : wv_K b n l t u) (h1 : wv_K b n l s t) : wv_K b n l s u := fun _ => by
  obtain ⟨a1, a2, a3, a4, a5⟩ := h1 trivial
  obtain ⟨b1, b2, b3, b4, b5⟩ := h2 trivial
  obtain ⟨e1, e2, _⟩ := (a1 trivial).1
  exact ⟨vz_K_t b1 a1, b2.trans a2, fun h => b3 (a3 h), fun q h => b4 (by rw [a2]; exact q) (a4 q h), fun q1 q2 h => b5 (by rw [e1]; exact q1) (by rw [e2]; exact q2) (a5 q1 q2 h)⟩
theorem wv_W_k {s t : sx_S} (h : wv_W b n l s) (k : wv_K b n l s t) : wv_W b n l t := by
  obtain ⟨h1, h2, h3⟩ := h
  obtain ⟨kz, k7, kC, kR, kD⟩ := k trivial
  obtain ⟨⟨k1, k2, k3⟩, k4, k5⟩ := kz trivial
  refine ⟨by omega, fun q _ => ?_, fun q => by rw [k7]; exact h3 (by omega)⟩
  have q' : s.1 0 2 ≠ 0 := by
    rw [← k1]
    exact q
  obtain ⟨⟨g1, gC⟩, g2, g3⟩ := h2 q' trivial
  refine ⟨⟨k5 (by omega) b n l g1, kC gC⟩, g2, ?_⟩
  rw [k2, k7]
  rcases g3 with ⟨q1, q2, q3⟩ | ⟨q1, q2, q3, q4, q5⟩ | q2
  · exact Or.inl ⟨q1, dk_LD_c k4 q2, q3⟩
  · exact Or.inr (Or.inl ⟨q1, q2, kD q' q1 q3, q4, kR q4 q5⟩)
  · exact Or.inr (Or.inr q2)
theorem wv_W_h {s : sx_S} (h : wv_W b n l s) (h2 : s.1 0 2 ≠ 0) (h3 : s.1 0 3 = 0) : wk_D b n l s := by
  obtain ⟨_, _, g3⟩ := h.2.1 h2 trivial
  rcases g3 with ⟨q, _⟩ | ⟨_, _, q, _⟩ | ⟨q, _⟩
  · omega
  · exact q
  · omega
theorem wv_W_r {s : sx_S} (h : wv_W b n l s) (h78 : s.1 66 78 ≠ 0) : wr_D b n l s := by
  by_cases c : s.1 0 2 = 0
  · exact absurd (h.2.2 c) h78
  · obtain ⟨_, _, g3⟩ := h.2.1 c trivial
    rcases g3 with ⟨_, _, q⟩ | ⟨_, _, _, _, q⟩ | ⟨_, _, q⟩
    · exact absurd q h78
    · exact q
    · exact absurd q h78
/-- both have a solution, of as many unknowns, or none has -/
theorem wv_W_e {s : sx_S} (h : wv_W b n l s) : (s.1 66 78 ≠ 0 ∧ s.1 0 2 ≠ 0 ∧ s.1 0 3 = 0 ∧ s.1 22 2 = s.1 66 45 ∧ s.1 18 10 = s.1 66 47) ∨ (s.1 66 78 = 0 ∧ (s.1 0 2 = 0 ∨ s.1 0 3 ≠ 0)) := by
  by_cases c : s.1 0 2 = 0
  · exact Or.inr ⟨h.2.2 c, Or.inl c⟩
  · obtain ⟨⟨_, gC⟩, _, g3⟩ := h.2.1 c trivial
    rcases g3 with ⟨q1, _, q⟩ | ⟨q1, _, q, q4, q5⟩ | ⟨q1, _, q⟩
    · exact Or.inr ⟨q, Or.inr (by omega)⟩
    · refine Or.inl ⟨q4, c, q1, ?_, ?_⟩
      · rw [wk_D_22 q, wr_C_45 gC]
      · rw [wk_D_18 q, wr_D_47 q5]
    · exact Or.inr ⟨q, Or.inr (by omega)⟩
theorem wv_K_w {s t : sx_S} (hI : cx_I t) (h : cx_F [(29, 37), (55, 65)] s t) (hD : s.1 0 2 ≠ 0 → s.1 0 3 = 0 → wk_D b n l t) : wv_K b n l s t := fun _ => ⟨vz_K_w h, by rw [(h.same 66 rfl).1], fun g => wr_C_F h (by decide) (fun k _ => by rw [(h.same 66 rfl).1]) g, fun _ g => wr_D_d hI h rfl g, fun q1 q2 _ => hD q1 q2⟩
theorem wv_K_d {s t : sx_S} (hI : cx_I t) (h : cx_F [(0, 1)] s t) (h2 : t.1 0 2 = s.1 0 2) (h3 : t.1 0 3 = s.1 0 3) : wv_K b n l s t := fun _ => ⟨vz_K_d h h2 h3, by rw [(h.same 66 rfl).1], fun g => wr_C_F h (by decide) (fun k _ => by rw [(h.same 66 rfl).1]) g, fun _ g => wr_D_d hI h rfl g, fun _ _ g => wk_D_F hI h rfl g⟩
theorem wv_K_f {s t : sx_S} (hI : cx_I t) (h : cx_F [(66, 67)] s t) (hf : rf_f [1] s t) : wv_K b n l s t := fun _ => ⟨vz_K_f h hf, hf 78 rfl, fun g => wr_C_F h (by decide) (fun k hk => by
  rcases hk with rfl | rfl | rfl | rfl <;> exact hf _ rfl) g, fun _ g => wr_D_k hI (cx_F_step h rfl (cx_F_refl _ _)) hf g, fun _ _ g => wk_D_F hI h rfl g⟩
theorem wv_K_p {s t : sx_S} (h : rf_BC s) (p : t = s ∨ (s.1 66 78 ≠ 0 ∧ rf_PP s t)) (hD : s.1 66 78 ≠ 0 → wr_D b n l t) : wv_K b n l s t := by
  rcases p with rfl | ⟨p1, p2⟩
  · exact wv_K_0 _
  · intro _
    have kz := vz_K_p h (Or.inr ⟨p1, p2⟩)
    obtain ⟨⟨q1, _⟩, q2, q3⟩ := p2
    exact ⟨kz, q3 78 rfl, fun g => wr_C_F q2 (by decide) (fun k hk => by
      rcases hk with rfl | rfl | rfl | rfl <;> exact q3 _ rfl) g, fun q _ => hD q, fun _ _ g => wk_D_F q1 q2 rfl g⟩
end
end
