/-! ===== the desk's solver: swap, meet, step: pieces ===== -/
theorem w_dv_sw {CALL : sx_Ca} {sL : Nat} {sx : Nat → Int32} {Q : Nat → sx_L → sx_S → Prop} {R : Int → sx_S → Prop} {s : sx_S} (hI : cx_I s) (hK : cx_I (sx_uf (sx_uf (sx_uf (sx_uf s.1 38 8 (s.1 38 10)) 38 10 (s.1 38 8)) 38 9 (s.1 38 11)) 38 11 (s.1 38 9), s.2) → R 0 (sx_uf (sx_uf (sx_uf (sx_uf s.1 38 8 (s.1 38 10)) 38 10 (s.1 38 8)) 38 9 (s.1 38 11)) 38 11 (s.1 38 9), s.2)) : sx_wp true sL sx eX6_swap CALL [] Q R 400 0 (sx_argsF 0 [.inr (.inl 38)]) [] s := by
  have r8 := hI.fld 38 8 (by decide) rfl
  have r9 := hI.fld 38 9 (by decide) rfl
  have r10 := hI.fld 38 10 (by decide) rfl
  have r11 := hI.fld 38 11 (by decide) rfl
  have i1 : cx_I (sx_uf s.1 38 8 (s.1 38 10), s.2) := cx_I_uf rfl rfl hI (by omega) (by omega)
  have i2 : cx_I (sx_uf (sx_uf s.1 38 8 (s.1 38 10)) 38 10 (s.1 38 8), s.2) := cx_I_uf rfl rfl i1 (by omega) (by omega)
  have i3 : cx_I (sx_uf (sx_uf (sx_uf s.1 38 8 (s.1 38 10)) 38 10 (s.1 38 8)) 38 9 (s.1 38 11), s.2) := cx_I_uf rfl rfl i2 (by omega) (by omega)
  have i4 : cx_I (sx_uf (sx_uf (sx_uf (sx_uf s.1 38 8 (s.1 38 10)) 38 10 (s.1 38 8)) 38 9 (s.1 38 11)) 38 11 (s.1 38 9), s.2) := cx_I_uf rfl rfl i3 (by omega) (by omega)
  have zz1 := hK i4
  repeat' (first | (with_reducible (rintro _ rfl)) | (with_reducible intro _) | (refine And.intro ?_ ?_))
  all_goals (try dsimp only at *)
  all_goals (first | trivial | assumption | omega | (exfalso; omega) | (exact zz1) | skip)
theorem c_dv_sw {sL : Nat} {sx : Nat → Int32} (hsL : sL ≤ 3072) (d : Nat) (hd : 2 ≤ d) : ∀ (s : sx_S) (K : Int → sx_S → Prop), cx_I s → (cx_I (sx_uf (sx_uf (sx_uf (sx_uf s.1 38 8 (s.1 38 10)) 38 10 (s.1 38 8)) 38 9 (s.1 38 11)) 38 11 (s.1 38 9), s.2) → K 0 (sx_uf (sx_uf (sx_uf (sx_uf s.1 38 8 (s.1 38 10)) 38 10 (s.1 38 8)) 38 9 (s.1 38 11)) 38 11 (s.1 38 9), s.2)) → sx_C sL sx d 73 [.inr (.inl 38)] s K := by
  intro s K hI hK
  obtain ⟨d, rfl⟩ : ∃ e, d = e + 2 := ⟨d - 2, by omega⟩
  exact sx_meth (wr := true) (n := 400) hsL (e := eX6_swap) rfl (w_dv_sw (Q := fun _ _ _ => False) hI hK)
theorem w_dv_me {CALL : sx_Ca} {sL : Nat} {sx : Nat → Int32} {Q : Nat → sx_L → sx_S → Prop} {R : Int → sx_S → Prop} {P : Int → Prop} {G2 : Int → sx_S → Prop} {s : sx_S} {al : Int} (h_eqa : ∀ K : Int → sx_S → Prop, (∀ z, P z → K z s) → CALL 76 [.inr (.inl 38)] s K) (h_ala : ∀ K : Int → sx_S → Prop, K al s → CALL 75 [.inr (.inl 38), .inl (s.1 38 8)] s K) (h_nar : ∀ kp, P kp → kp ≠ al → ∀ K : Int → sx_S → Prop, (∀ t, G2 kp t → K 0 t) → CALL 9 [.inr (.inl 33), .inl (s.1 38 8), .inl kp] s K) (hP : ∀ kp, P kp → 0 ≤ kp ∧ kp < 32) (hI : cx_I s) (ra : -2147483648 ≤ al ∧ al ≤ 2147483647) (hK1 : ∀ kp, P kp → kp = al → R 0 s) (hK2 : ∀ kp, P kp → kp ≠ al → ∀ t, G2 kp t → R 0 t) : sx_wp true sL sx eX6_meet CALL [] Q R 400 0 (sx_argsF 0 [.inr (.inl 38)]) [] s := by
  have r8 := hI.fld 38 8 (by decide) rfl
  repeat' (first | (with_reducible (rintro _ rfl)) | (with_reducible intro _) | (refine And.intro ?_ ?_) | (refine h_eqa _ (fun kp zzp => ?_); have zzq := hP kp zzp) | (refine h_ala _ ?_) | (refine h_nar _ zzp (by omega) _ (fun t zzt => ?_)))
  all_goals (try dsimp only at *)
  all_goals (first | trivial | assumption | omega | (exfalso; omega) | (exact hK1 _ zzp (by omega)) | (exact hK2 _ zzp (by omega) _ zzt) | skip)
theorem w_dv_st0 {CALL : sx_Ca} {sL : Nat} {sx : Nat → Int32} {Q : Nat → sx_L → sx_S → Prop} {R : Int → sx_S → Prop} {G : sx_S → Prop} {s : sx_S} (h_tp : ∀ K : Int → sx_S → Prop, (∀ t, G t → K 0 t) → CALL 72 [.inr (.inl 38)] s K) (hQ : ∀ t, G t → Q 4 [(0, .inr (.inl 38))] t) : sx_wp true sL sx eX6_step CALL [(4, [0]), (68, [0]), (142, [0])] Q R 400 0 (sx_argsF 0 [.inr (.inl 38)]) [] s := h_tp _ (fun t ht => hQ t ht)
theorem w_dv_st4 {CALL : sx_Ca} {sL : Nat} {sx : Nat → Int32} {Q : Nat → sx_L → sx_S → Prop} {R : Int → sx_S → Prop} (h_isu : ∀ (a0 : Int) (s : sx_S) (K : Int → sx_S → Prop), cx_I s → (0 ≤ a0 ∧ a0 < s.1 11 6) → (s.2.1 12 a0.toNat = 3 → K 1 s) → (s.2.1 12 a0.toNat ≠ 3 → K 0 s) → CALL 74 [.inr (.inl 38), .inl a0] s K) (h_head : ∀ (a0 : Int) (s : sx_S) (K : Int → sx_S → Prop), cx_I s → (-2147483648 ≤ a0 ∧ a0 ≤ 2147483647) → (∀ z : Int, (0 ≤ a0 → a0 < s.1 11 6 → z = s.2.1 13 a0.toNat) → (a0 < 0 → z = -1) → K z s) → CALL 92 [.inr (.inl 11), .inl a0] s K) {P : Int → Prop} {s : sx_S} {al : Int} (h_eqa : (s.2.1 12 (s.1 38 8).toNat) = 3 → (s.2.1 12 (s.1 38 10).toNat) = 3 → (s.2.1 13 (s.1 38 8).toNat) = (s.2.1 13 (s.1 38 10).toNat) → ∀ K : Int → sx_S → Prop, (∀ z, P z → K z s) → CALL 76 [.inr (.inl 38)] s K) (h_ala : (s.2.1 12 (s.1 38 8).toNat) = 3 → ∀ K : Int → sx_S → Prop, K al s → CALL 75 [.inr (.inl 38), .inl (s.1 38 8)] s K) (hP : ∀ kp, P kp → 0 ≤ kp ∧ kp < 32) (hI : cx_I s) (p1 : 0 ≤ (s.1 38 8) ∧ (s.1 38 8) < s.1 11 6) (p2 : 0 ≤ (s.1 38 10) ∧ (s.1 38 10) < s.1 11 6) (ra : -2147483648 ≤ al ∧ al ≤ 2147483647) (hK : (s.2.1 12 (s.1 38 8).toNat) = 3 → (s.2.1 12 (s.1 38 10).toNat) = 3 → (s.2.1 13 (s.1 38 8).toNat) = (s.2.1 13 (s.1 38 10).toNat) → P al → R 1 s) (hQ : ((s.2.1 12 (s.1 38 8).toNat) = 3 → (s.2.1 12 (s.1 38 10).toNat) = 3 → (s.2.1 13 (s.1 38 8).toNat) = (s.2.1 13 (s.1 38 10).toNat) → ∃ kp, P kp ∧ kp ≠ al) → Q 68 [(0, .inr (.inl 38))] s) : sx_wp true sL sx eX6_step CALL [(4, [0]), (68, [0]), (142, [0])] Q R 400 4 [(0, .inr (.inl 38))] [] s := by
  have h0 := hI.fld 11 6 (by decide) rfl
  have ra1 := hI.arr 13 (by decide) rfl (s.1 38 8).toNat
  have rb1 := hI.arr 13 (by decide) rfl (s.1 38 10).toNat
  repeat' (first | (with_reducible (rintro _ rfl)) | (with_reducible intro _) | (refine And.intro ?_ ?_) | (refine h_isu (s.1 38 8) s _ hI p1 (fun zzk => ?_) (fun zzk => ?_)) | (refine h_isu (s.1 38 10) s _ hI p2 (fun zzl => ?_) (fun zzl => ?_)) | (refine h_head (s.1 38 8) s _ hI (by omega) (fun v v1 v2 => ?_); obtain rfl := v1 p1.1 p1.2) | (refine h_head (s.1 38 10) s _ hI (by omega) (fun v v1 v2 => ?_); obtain rfl := v1 p2.1 p2.2) | (refine h_eqa (by omega) (by omega) (by omega) _ (fun kp zzp => ?_); have zzq := hP kp zzp) | (refine h_ala (by omega) _ ?_))
  all_goals (try dsimp only at *)
  all_goals (first | trivial | assumption | omega | (exfalso; omega) | (have zze : kp = al := (by assumption); subst zze; exact hK zzk zzl (by assumption) zzp) | (refine hQ (fun zz1 zz2 zz3 => ?_); first | (exfalso; omega) | exact ⟨kp, zzp, (by assumption)⟩ | exact ⟨kp, zzp, (by omega)⟩) | skip)
theorem w_dv_st68 {CALL : sx_Ca} {sL : Nat} {sx : Nat → Int32} {Q : Nat → sx_L → sx_S → Prop} {R : Int → sx_S → Prop} (h_dv_anode : ∀ (s : sx_S) (K : Int → sx_S → Prop), cx_I s → (∀ z : Int, (z = s.1 33 7) → K z s) → CALL 2 [.inr (.inl 33)] s K) (h_dv_achain : ∀ (s : sx_S) (K : Int → sx_S → Prop), cx_I s → (∀ z : Int, (z = s.1 33 8) → K z s) → CALL 3 [.inr (.inl 33)] s K) {G1 : sx_S → Prop} {G2 : sx_S → sx_S → Prop} {s : sx_S} (h_set1 : ∀ K : Int → sx_S → Prop, (∀ t, G1 t → K 0 t) → CALL 5 [.inr (.inl 33), .inl (s.1 38 8), .inl (s.1 38 9)] s K) (h_set2 : ∀ t, G1 t → cx_I (sx_uf (sx_uf t.1 38 8 (t.1 33 7)) 38 9 (t.1 33 8), t.2) → ∀ K : Int → sx_S → Prop, (∀ t', G2 t t' → K 0 t') → CALL 5 [.inr (.inl 33), .inl (t.1 38 10), .inl (t.1 38 11)] (sx_uf (sx_uf t.1 38 8 (t.1 33 7)) 38 9 (t.1 33 8), t.2) K) (hG1 : ∀ t, G1 t → cx_I t) (hG2 : ∀ t t', G2 t t' → cx_I t') (hI : cx_I s) (hQ : ∀ t t', G1 t → G2 t t' → cx_I (sx_uf (sx_uf t.1 38 8 (t.1 33 7)) 38 9 (t.1 33 8), t.2) → cx_I (sx_uf (sx_uf t'.1 38 10 (t'.1 33 7)) 38 11 (t'.1 33 8), t'.2) → Q 142 [(0, .inr (.inl 38))] (sx_uf (sx_uf t'.1 38 10 (t'.1 33 7)) 38 11 (t'.1 33 8), t'.2)) : sx_wp true sL sx eX6_step CALL [(4, [0]), (68, [0]), (142, [0])] Q R 400 68 [(0, .inr (.inl 38))] [] s := by
  refine And.intro hI ?_
  repeat (first | (with_reducible (rintro _ rfl)) | (with_reducible intro _) | (refine And.intro ?_ ?_; (focus first | trivial | assumption | omega)))
  refine h_set1 _ (fun t ht => ?_)
  have i0 := hG1 t ht
  have r7 := i0.fld 33 7 (by decide) rfl
  have r8 := i0.fld 33 8 (by decide) rfl
  refine h_dv_anode t _ i0 (fun v v1 => ?_)
  obtain rfl := v1
  have i1 : cx_I (sx_uf t.1 38 8 (t.1 33 7), t.2) := cx_I_uf rfl rfl i0 (by omega) (by omega)
  refine h_dv_achain (sx_uf t.1 38 8 (t.1 33 7), t.2) _ i1 (fun v v1 => ?_)
  have v1' : v = t.1 33 8 := v1
  obtain rfl := v1'
  have i2 : cx_I (sx_uf (sx_uf t.1 38 8 (t.1 33 7)) 38 9 (t.1 33 8), t.2) := cx_I_uf rfl rfl i1 (by omega) (by omega)
  refine And.intro i2 ?_
  repeat (first | (with_reducible (rintro _ rfl)) | (with_reducible intro _) | (refine And.intro ?_ ?_; (focus first | trivial | assumption | omega)))
  refine h_set2 t ht i2 _ (fun t' ht' => ?_)
  have j0 := hG2 t t' ht'
  have q7 := j0.fld 33 7 (by decide) rfl
  have q8 := j0.fld 33 8 (by decide) rfl
  refine h_dv_anode t' _ j0 (fun v v1 => ?_)
  obtain rfl := v1
  have j1 : cx_I (sx_uf t'.1 38 10 (t'.1 33 7), t'.2) := cx_I_uf rfl rfl j0 (by omega) (by omega)
  refine h_dv_achain (sx_uf t'.1 38 10 (t'.1 33 7), t'.2) _ j1 (fun v v1 => ?_)
  have v1' : v = t'.1 33 8 := v1
  obtain rfl := v1'
  have j2 : cx_I (sx_uf (sx_uf t'.1 38 10 (t'.1 33 7)) 38 11 (t'.1 33 8), t'.2) := cx_I_uf rfl rfl j1 (by omega) (by omega)
  exact hQ t t' ht ht' i2 j2
theorem w_dv_st142 {CALL : sx_Ca} {sL : Nat} {sx : Nat → Int32} {Q : Nat → sx_L → sx_S → Prop} {R : Int → sx_S → Prop} (h_isu : ∀ (a0 : Int) (s : sx_S) (K : Int → sx_S → Prop), cx_I s → (0 ≤ a0 ∧ a0 < s.1 11 6) → (s.2.1 12 a0.toNat = 3 → K 1 s) → (s.2.1 12 a0.toNat ≠ 3 → K 0 s) → CALL 74 [.inr (.inl 38), .inl a0] s K) (h_head : ∀ (a0 : Int) (s : sx_S) (K : Int → sx_S → Prop), cx_I s → (-2147483648 ≤ a0 ∧ a0 ≤ 2147483647) → (∀ z : Int, (0 ≤ a0 → a0 < s.1 11 6 → z = s.2.1 13 a0.toNat) → (a0 < 0 → z = -1) → K z s) → CALL 92 [.inr (.inl 11), .inl a0] s K) (h_sw : ∀ (s : sx_S) (K : Int → sx_S → Prop), cx_I s → (cx_I (sx_uf (sx_uf (sx_uf (sx_uf s.1 38 8 (s.1 38 10)) 38 10 (s.1 38 8)) 38 9 (s.1 38 11)) 38 11 (s.1 38 9), s.2) → K 0 (sx_uf (sx_uf (sx_uf (sx_uf s.1 38 8 (s.1 38 10)) 38 10 (s.1 38 8)) 38 9 (s.1 38 11)) 38 11 (s.1 38 9), s.2)) → CALL 73 [.inr (.inl 38)] s K) {Gm : sx_S → Prop} {Gg Gh Gt : Int → sx_S → Prop} {s : sx_S} (h_me : (s.2.1 12 (s.1 38 8).toNat) = 3 → (s.2.1 12 (s.1 38 10).toNat) = 3 → (s.2.1 13 (s.1 38 8).toNat) = (s.2.1 13 (s.1 38 10).toNat) → ∀ K : Int → sx_S → Prop, (∀ t, Gm t → K 0 t) → CALL 77 [.inr (.inl 38)] s K) (h_gv : (s.2.1 12 (s.1 38 8).toNat) = 3 → ((s.2.1 12 (s.1 38 10).toNat) = 3 → (s.2.1 13 (s.1 38 8).toNat) ≠ (s.2.1 13 (s.1 38 10).toNat)) → ∀ K : Int → sx_S → Prop, (∀ z t, Gg z t → K z t) → CALL 79 [.inr (.inl 38)] s K) (h_gw : (s.2.1 12 (s.1 38 8).toNat) ≠ 3 → (s.2.1 12 (s.1 38 10).toNat) = 3 → cx_I (sx_uf (sx_uf (sx_uf (sx_uf s.1 38 8 (s.1 38 10)) 38 10 (s.1 38 8)) 38 9 (s.1 38 11)) 38 11 (s.1 38 9), s.2) → ∀ K : Int → sx_S → Prop, (∀ z t, Gh z t → K z t) → CALL 79 [.inr (.inl 38)] (sx_uf (sx_uf (sx_uf (sx_uf s.1 38 8 (s.1 38 10)) 38 10 (s.1 38 8)) 38 9 (s.1 38 11)) 38 11 (s.1 38 9), s.2) K) (h_ta : (s.2.1 12 (s.1 38 8).toNat) ≠ 3 → (s.2.1 12 (s.1 38 10).toNat) ≠ 3 → ∀ K : Int → sx_S → Prop, (∀ z t, Gt z t → K z t) → CALL 78 [.inr (.inl 38)] s K) (hB : (∀ z t, Gg z t → z = 0 ∨ z = 1) ∧ (∀ z t, Gh z t → z = 0 ∨ z = 1) ∧ ∀ z t, Gt z t → z = 0 ∨ z = 1) (hI : cx_I s) (p1 : 0 ≤ (s.1 38 8) ∧ (s.1 38 8) < s.1 11 6) (p2 : 0 ≤ (s.1 38 10) ∧ (s.1 38 10) < s.1 11 6) (hK1 : (s.2.1 12 (s.1 38 8).toNat) = 3 → (s.2.1 12 (s.1 38 10).toNat) = 3 → (s.2.1 13 (s.1 38 8).toNat) = (s.2.1 13 (s.1 38 10).toNat) → ∀ t, Gm t → R 1 t) (hK2 : (s.2.1 12 (s.1 38 8).toNat) = 3 → ((s.2.1 12 (s.1 38 10).toNat) = 3 → (s.2.1 13 (s.1 38 8).toNat) ≠ (s.2.1 13 (s.1 38 10).toNat)) → ∀ z t, Gg z t → R z t) (hK3 : (s.2.1 12 (s.1 38 8).toNat) ≠ 3 → (s.2.1 12 (s.1 38 10).toNat) = 3 → ∀ z t, Gh z t → R z t) (hK4 : (s.2.1 12 (s.1 38 8).toNat) ≠ 3 → (s.2.1 12 (s.1 38 10).toNat) ≠ 3 → ∀ z t, Gt z t → R z t) : sx_wp true sL sx eX6_step CALL [(4, [0]), (68, [0]), (142, [0])] Q R 400 142 [(0, .inr (.inl 38))] [] s := by
  have h0 := hI.fld 11 6 (by decide) rfl
  have ra1 := hI.arr 13 (by decide) rfl (s.1 38 8).toNat
  have rb1 := hI.arr 13 (by decide) rfl (s.1 38 10).toNat
  repeat' (first | (with_reducible (rintro _ rfl)) | (with_reducible intro _) | (refine And.intro ?_ ?_) | (refine h_isu (s.1 38 8) s _ hI p1 (fun zzk => ?_) (fun zzk => ?_)) | (refine h_isu (s.1 38 10) s _ hI p2 (fun zzl => ?_) (fun zzl => ?_)) | (refine h_head (s.1 38 8) s _ hI (by omega) (fun v v1 v2 => ?_); obtain rfl := v1 p1.1 p1.2) | (refine h_head (s.1 38 10) s _ hI (by omega) (fun v v1 v2 => ?_); obtain rfl := v1 p2.1 p2.2) | (refine h_me (by omega) (by omega) (by omega) _ (fun t zzm => ?_)) | (refine h_gv (by omega) (by omega) _ (fun z t zzg => ?_)) | (refine h_sw s _ hI (fun zzs => ?_)) | (refine h_gw (by omega) (by omega) zzs _ (fun z t zzh => ?_)) | (refine h_ta (by omega) (by omega) _ (fun z t zzt => ?_)))
  all_goals (try dsimp only at *)
  all_goals (first | trivial | assumption | omega | (exfalso; omega) | (exact hB.1 _ _ zzg) | (exact hB.2.1 _ _ zzh) | (exact hB.2.2 _ _ zzt) | (exact hK1 (by omega) (by omega) (by omega) _ zzm) | (exact hK2 (by omega) (by omega) _ _ zzg) | (exact hK3 (by omega) (by omega) _ _ zzh) | (exact hK4 (by omega) (by omega) _ _ zzt) | skip)
