/-! ===== the desk's solver: a pair is taken ===== -/
theorem w_dv_tp {CALL : sx_Ca} {sL : Nat} {sx : Nat → Int32} {Q : Nat → sx_L → sx_S → Prop} {R : Int → sx_S → Prop} (h_dv_pop39 : ∀ (s : sx_S) (K : Int → sx_S → Prop), cx_I s → (∀ (z : Int) (t : sx_S), cx_I t → cx_F [(39, 39)] s t → (0 < s.1 39 6 → t.1 39 6 = s.1 39 6 - 1) → K z t) → CALL 62 [.inr (.inl 39)] s K) (h_dv_pmark39 : ∀ (s : sx_S) (K : Int → sx_S → Prop), cx_I s → (∀ z : Int, (s.1 39 6 < 512 → z = s.2.1 45 (s.1 39 6).toNat) → K z s) → CALL 68 [.inr (.inl 39)] s K) (h_dv_rel : ∀ (a0 : Int) (s : sx_S) (K : Int → sx_S → Prop), cx_I s → (-2147483648 ≤ a0 ∧ a0 ≤ 2147483647) → (∀ (z : Int) (t : sx_S), cx_I t → cx_F [(29, 29)] s t → (0 ≤ a0 → a0 ≤ s.1 29 3 → t.1 29 3 = a0) → K z t) → CALL 45 [.inr (.inl 29), .inl a0] s K) (h_dv_pnode39 : ∀ (s : sx_S) (K : Int → sx_S → Prop), cx_I s → (∀ z : Int, (s.1 39 6 < 512 → z = s.2.1 40 (s.1 39 6).toNat) → K z s) → CALL 63 [.inr (.inl 39)] s K) (h_dv_pchain39 : ∀ (s : sx_S) (K : Int → sx_S → Prop), cx_I s → (∀ z : Int, (s.1 39 6 < 512 → z = s.2.1 41 (s.1 39 6).toNat) → K z s) → CALL 64 [.inr (.inl 39)] s K) (h_dv_pother39 : ∀ (s : sx_S) (K : Int → sx_S → Prop), cx_I s → (∀ z : Int, (s.1 39 6 < 512 → z = s.2.1 42 (s.1 39 6).toNat) → K z s) → CALL 65 [.inr (.inl 39)] s K) (h_dv_potherChain39 : ∀ (s : sx_S) (K : Int → sx_S → Prop), cx_I s → (∀ z : Int, (s.1 39 6 < 512 → z = s.2.1 43 (s.1 39 6).toNat) → K z s) → CALL 66 [.inr (.inl 39)] s K) (h_dv_plevel39 : ∀ (s : sx_S) (K : Int → sx_S → Prop), cx_I s → (∀ z : Int, (s.1 39 6 < 512 → z = s.2.1 44 (s.1 39 6).toNat) → K z s) → CALL 67 [.inr (.inl 39)] s K) {s : sx_S} (hI : cx_I s) (p0 : 0 < s.1 39 6) (pm : 0 ≤ s.2.1 45 (s.1 39 6 - 1).toNat ∧ s.2.1 45 (s.1 39 6 - 1).toNat ≤ s.1 29 3) (hQ : ∀ u, cx_I u → cx_F [(29, 29), (38, 39)] s u → u.1 39 6 = s.1 39 6 - 1 → u.1 29 3 = s.2.1 45 (s.1 39 6 - 1).toNat → (u.1 38 8 = s.2.1 40 (s.1 39 6 - 1).toNat ∧ u.1 38 9 = s.2.1 41 (s.1 39 6 - 1).toNat ∧ u.1 38 10 = s.2.1 42 (s.1 39 6 - 1).toNat ∧ u.1 38 11 = s.2.1 43 (s.1 39 6 - 1).toNat ∧ u.1 38 12 = s.2.1 44 (s.1 39 6 - 1).toNat) → Q 78 [(0, .inr (.inl 38)), (1, .inl 0)] u) : sx_wp true sL sx eX6_takePair CALL [(78, [0, 1])] Q R 400 0 (sx_argsF 0 [.inr (.inl 38)]) [] s := by
  have h39 := hI.fld 39 6 (by decide) rfl
  have r45 := hI.arr 45 (by decide) rfl (s.1 39 6 - 1).toNat
  refine h_dv_pop39 _ _ hI (fun z1 t1 i1 f1 e1 => ?_)
  have e1' := e1 p0
  refine h_dv_pmark39 _ _ i1 (fun z2 e2 => ?_)
  have a1 : ∀ p, p ≠ 39 → t1.1 p = s.1 p ∧ t1.2.1 p = s.2.1 p := fun p hp => (f1 p).1 (by
    show cx_out [(39, 39)] p
    simp [cx_out]
    omega)
  have e2' : z2 = s.2.1 45 (s.1 39 6 - 1).toNat := by
    rw [e2 (by omega), e1', (a1 45 (by decide)).2]
  have l1 : t1.1 29 3 = s.1 29 3 := by rw [(a1 29 (by decide)).1]
  refine h_dv_rel _ _ _ i1 (by omega) (fun z3 t2 i2 f2 e3 => ?_)
  have a2 : ∀ p, p ≠ 29 → t2.1 p = t1.1 p ∧ t2.2.1 p = t1.2.1 p := fun p hp => (f2 p).1 (by
    show cx_out [(29, 29)] p
    simp [cx_out]
    omega)
  have e3' : t2.1 29 3 = s.2.1 45 (s.1 39 6 - 1).toNat := by rw [e3 (by omega) (by omega), e2']
  have u39 : t2.1 39 6 = s.1 39 6 - 1 := by rw [(a2 39 (by decide)).1, e1']
  have rr0 := hI.arr 40 (by decide) rfl (s.1 39 6 - 1).toNat
  refine h_dv_pnode39 t2 _ i2 (fun z4 e4 => ?_)
  have ww0 : t2.1 39 6 = t2.1 39 6 := rfl
  have v4 : z4 = s.2.1 40 (s.1 39 6 - 1).toNat := by
    have q := e4 (by show t2.1 39 6 < 512; rw [ww0]; omega)
    have q' : z4 = t2.2.1 40 (t2.1 39 6).toNat := q
    rw [q', ww0, u39, (a2 40 (by decide)).2, (a1 40 (by decide)).2]
  have j4 : cx_I ((sx_uf t2.1 38 8 z4), t2.2) := cx_I_uf rfl rfl i2 (by omega) (by omega)
  have rr1 := hI.arr 41 (by decide) rfl (s.1 39 6 - 1).toNat
  refine h_dv_pchain39 ((sx_uf t2.1 38 8 z4), t2.2) _ j4 (fun z5 e5 => ?_)
  have ww1 : (sx_uf t2.1 38 8 z4) 39 6 = t2.1 39 6 := rfl
  have v5 : z5 = s.2.1 41 (s.1 39 6 - 1).toNat := by
    have q := e5 (by show (sx_uf t2.1 38 8 z4) 39 6 < 512; rw [ww1]; omega)
    have q' : z5 = t2.2.1 41 ((sx_uf t2.1 38 8 z4) 39 6).toNat := q
    rw [q', ww1, u39, (a2 41 (by decide)).2, (a1 41 (by decide)).2]
  have j5 : cx_I ((sx_uf (sx_uf t2.1 38 8 z4) 38 9 z5), t2.2) := cx_I_uf rfl rfl j4 (by omega) (by omega)
  have rr2 := hI.arr 42 (by decide) rfl (s.1 39 6 - 1).toNat
  refine h_dv_pother39 ((sx_uf (sx_uf t2.1 38 8 z4) 38 9 z5), t2.2) _ j5 (fun z6 e6 => ?_)
  have ww2 : (sx_uf (sx_uf t2.1 38 8 z4) 38 9 z5) 39 6 = t2.1 39 6 := rfl
  have v6 : z6 = s.2.1 42 (s.1 39 6 - 1).toNat := by
    have q := e6 (by show (sx_uf (sx_uf t2.1 38 8 z4) 38 9 z5) 39 6 < 512; rw [ww2]; omega)
    have q' : z6 = t2.2.1 42 ((sx_uf (sx_uf t2.1 38 8 z4) 38 9 z5) 39 6).toNat := q
    rw [q', ww2, u39, (a2 42 (by decide)).2, (a1 42 (by decide)).2]
  have j6 : cx_I ((sx_uf (sx_uf (sx_uf t2.1 38 8 z4) 38 9 z5) 38 10 z6), t2.2) := cx_I_uf rfl rfl j5 (by omega) (by omega)
  have rr3 := hI.arr 43 (by decide) rfl (s.1 39 6 - 1).toNat
  refine h_dv_potherChain39 ((sx_uf (sx_uf (sx_uf t2.1 38 8 z4) 38 9 z5) 38 10 z6), t2.2) _ j6 (fun z7 e7 => ?_)
  have ww3 : (sx_uf (sx_uf (sx_uf t2.1 38 8 z4) 38 9 z5) 38 10 z6) 39 6 = t2.1 39 6 := rfl
  have v7 : z7 = s.2.1 43 (s.1 39 6 - 1).toNat := by
    have q := e7 (by show (sx_uf (sx_uf (sx_uf t2.1 38 8 z4) 38 9 z5) 38 10 z6) 39 6 < 512; rw [ww3]; omega)
    have q' : z7 = t2.2.1 43 ((sx_uf (sx_uf (sx_uf t2.1 38 8 z4) 38 9 z5) 38 10 z6) 39 6).toNat := q
    rw [q', ww3, u39, (a2 43 (by decide)).2, (a1 43 (by decide)).2]
  have j7 : cx_I ((sx_uf (sx_uf (sx_uf (sx_uf t2.1 38 8 z4) 38 9 z5) 38 10 z6) 38 11 z7), t2.2) := cx_I_uf rfl rfl j6 (by omega) (by omega)
  have rr4 := hI.arr 44 (by decide) rfl (s.1 39 6 - 1).toNat
  refine h_dv_plevel39 ((sx_uf (sx_uf (sx_uf (sx_uf t2.1 38 8 z4) 38 9 z5) 38 10 z6) 38 11 z7), t2.2) _ j7 (fun z8 e8 => ?_)
  have ww4 : (sx_uf (sx_uf (sx_uf (sx_uf t2.1 38 8 z4) 38 9 z5) 38 10 z6) 38 11 z7) 39 6 = t2.1 39 6 := rfl
  have v8 : z8 = s.2.1 44 (s.1 39 6 - 1).toNat := by
    have q := e8 (by show (sx_uf (sx_uf (sx_uf (sx_uf t2.1 38 8 z4) 38 9 z5) 38 10 z6) 38 11 z7) 39 6 < 512; rw [ww4]; omega)
    have q' : z8 = t2.2.1 44 ((sx_uf (sx_uf (sx_uf (sx_uf t2.1 38 8 z4) 38 9 z5) 38 10 z6) 38 11 z7) 39 6).toNat := q
    rw [q', ww4, u39, (a2 44 (by decide)).2, (a1 44 (by decide)).2]
  have j8 : cx_I ((sx_uf (sx_uf (sx_uf (sx_uf (sx_uf t2.1 38 8 z4) 38 9 z5) 38 10 z6) 38 11 z7) 38 12 z8), t2.2) := cx_I_uf rfl rfl j7 (by omega) (by omega)
  refine hQ _ j8 (cx_F_uf rfl (cx_F_uf rfl (cx_F_uf rfl (cx_F_uf rfl (cx_F_uf rfl (cx_F_step f2 rfl (cx_F_step f1 rfl (cx_F_refl _ _)))))))) ?_ ?_ ⟨?_, ?_, ?_, ?_, ?_⟩
  · exact u39
  · exact e3'
  · show _ = _
    rw [← v4]
    rfl
  · show _ = _
    rw [← v5]
    rfl
  · show _ = _
    rw [← v6]
    rfl
  · show _ = _
    rw [← v7]
    rfl
  · show _ = _
    rw [← v8]
    rfl

theorem w_dv_tp78n {CALL : sx_Ca} {sL : Nat} {sx : Nat → Int32} {Q : Nat → sx_L → sx_S → Prop} {R : Int → sx_S → Prop} (h_kind : ∀ (a0 : Int) (s : sx_S) (K : Int → sx_S → Prop), cx_I s → (-2147483648 ≤ a0 ∧ a0 ≤ 2147483647) → (∀ z : Int, (0 ≤ a0 → a0 < s.1 11 6 → z = s.2.1 12 a0.toNat) → (a0 < 0 → z = -1) → K z s) → CALL 91 [.inr (.inl 11), .inl a0] s K) {s : sx_S} {x1 : Int} (hI : cx_I s) (p1 : 0 ≤ (s.1 38 8) ∧ (s.1 38 8) < s.1 11 6) (p2 : 0 ≤ (s.1 38 10) ∧ (s.1 38 10) < s.1 11 6) (q1 : 0 ≤ x1 ∧ x1 ≤ 1024) (hn : s.2.1 12 (s.1 38 8).toNat ≠ 0 ∨ s.2.1 12 (s.1 38 10).toNat ≠ 0) (hK : R 0 s) : sx_wp true sL sx eX6_takePair CALL [(78, [0, 1])] Q R 400 78 [(0, .inr (.inl 38)), (1, .inl x1)] [] s := by
  have h0 := hI.fld 11 6 (by decide) rfl
  have r1 := hI.arr 12 (by decide) rfl (s.1 38 8).toNat
  have r2 := hI.arr 12 (by decide) rfl (s.1 38 10).toNat
  repeat' (first | (with_reducible (rintro _ rfl)) | (with_reducible intro _) | (refine And.intro ?_ ?_) | (refine h_kind (s.1 38 8) s _ hI (by omega) (fun v v1 v2 => ?_); obtain rfl := v1 p1.1 p1.2) | (refine h_kind (s.1 38 10) s _ hI (by omega) (fun v v1 v2 => ?_); obtain rfl := v1 p2.1 p2.2))
  all_goals (try dsimp only at *)
  all_goals (first | trivial | assumption | omega | (exfalso; omega) | skip)
theorem w_dv_tp78y {CALL : sx_Ca} {sL : Nat} {sx : Nat → Int32} {Q : Nat → sx_L → sx_S → Prop} {R : Int → sx_S → Prop} (h_kind : ∀ (a0 : Int) (s : sx_S) (K : Int → sx_S → Prop), cx_I s → (-2147483648 ≤ a0 ∧ a0 ≤ 2147483647) → (∀ z : Int, (0 ≤ a0 → a0 < s.1 11 6 → z = s.2.1 12 a0.toNat) → (a0 < 0 → z = -1) → K z s) → CALL 91 [.inr (.inl 11), .inl a0] s K) (h_head : ∀ (a0 : Int) (s : sx_S) (K : Int → sx_S → Prop), cx_I s → (-2147483648 ≤ a0 ∧ a0 ≤ 2147483647) → (∀ z : Int, (0 ≤ a0 → a0 < s.1 11 6 → z = s.2.1 13 a0.toNat) → (a0 < 0 → z = -1) → K z s) → CALL 92 [.inr (.inl 11), .inl a0] s K) (h_body : ∀ (a0 : Int) (s : sx_S) (K : Int → sx_S → Prop), cx_I s → (-2147483648 ≤ a0 ∧ a0 ≤ 2147483647) → (∀ z : Int, (0 ≤ a0 → a0 < s.1 11 6 → z = s.2.1 14 a0.toNat) → (a0 < 0 → z = -1) → K z s) → CALL 93 [.inr (.inl 11), .inl a0] s K) (h_with : ∀ (a0 a1 a2 : Int) (s : sx_S) (R : Int → sx_S → Prop), cx_I s → s.1 29 3 < 1024 → (-2147483648 ≤ a0 ∧ a0 ≤ 2147483647) → (-2147483648 ≤ a1 ∧ a1 ≤ 2147483647) → (-2147483648 ≤ a2 ∧ a2 ≤ 2147483647) → (∀ t, cx_I t → cx_F [(29, 32)] s t → dv_w1 a0 a1 a2 s t → R (s.1 29 3) t) → CALL 46 [.inr (.inl 29), .inl a0, .inl a1, .inl a2] s R) {s : sx_S} {x1 : Int} (hI : cx_I s) (p1 : 0 ≤ (s.1 38 8) ∧ (s.1 38 8) < s.1 11 6) (p2 : 0 ≤ (s.1 38 10) ∧ (s.1 38 10) < s.1 11 6) (q1 : 0 ≤ x1 ∧ x1 < 1024) (k1 : s.2.1 12 (s.1 38 8).toNat = 0) (k2 : s.2.1 12 (s.1 38 10).toNat = 0) (hL : -2147483648 ≤ s.1 38 12 ∧ s.1 38 12 < 2147483647) (hU : s.1 29 3 + 2 ≤ 1024) (hQ : ∀ t1 t2, cx_I t1 → cx_F [(29, 32)] s t1 → dv_w1 (s.1 38 9) (s.2.1 13 (s.1 38 8).toNat) (s.1 38 12) s t1 → cx_I t2 → cx_F [(29, 32)] (sx_uf t1.1 38 9 (s.1 29 3), t1.2) t2 → dv_w1 (t1.1 38 11) (s.2.1 13 (s.1 38 10).toNat) (t1.1 38 12) (sx_uf t1.1 38 9 (s.1 29 3), t1.2) t2 → cx_I (sx_uf (sx_uf (sx_uf (sx_uf t2.1 38 11 (t1.1 29 3)) 38 8 (s.2.1 14 (s.1 38 8).toNat)) 38 10 (s.2.1 14 (s.1 38 10).toNat)) 38 12 (s.1 38 12 + 1), t2.2) → Q 78 [(0, .inr (.inl 38)), (1, .inl (x1 + 1))] (sx_uf (sx_uf (sx_uf (sx_uf t2.1 38 11 (t1.1 29 3)) 38 8 (s.2.1 14 (s.1 38 8).toNat)) 38 10 (s.2.1 14 (s.1 38 10).toNat)) 38 12 (s.1 38 12 + 1), t2.2)) : sx_wp true sL sx eX6_takePair CALL [(78, [0, 1])] Q R 400 78 [(0, .inr (.inl 38)), (1, .inl x1)] [] s := by
  have h0 := hI.fld 11 6 (by decide) rfl
  have h29 := hI.fld 29 3 (by decide) rfl
  have r9 := hI.fld 38 9 (by decide) rfl
  have r11 := hI.fld 38 11 (by decide) rfl
  have ra := hI.arr 13 (by decide) rfl (s.1 38 8).toNat
  have rb := hI.arr 13 (by decide) rfl (s.1 38 10).toNat
  have rc := hI.arr 14 (by decide) rfl (s.1 38 8).toNat
  have rd := hI.arr 14 (by decide) rfl (s.1 38 10).toNat
  have zzy : sx_w true (x1 + 1) = x1 + 1 := px_wid (by omega) (by omega)
  have zzl : sx_w true (s.1 38 12 + 1) = s.1 38 12 + 1 := px_wid (by omega) (by omega)
  have fin : ∀ t1 t2, cx_I t1 → cx_F [(29, 32)] s t1 → dv_w1 (s.1 38 9) (s.2.1 13 (s.1 38 8).toNat) (s.1 38 12) s t1 → cx_I t2 → cx_F [(29, 32)] (sx_uf t1.1 38 9 (s.1 29 3), t1.2) t2 → dv_w1 (t1.1 38 11) (s.2.1 13 (s.1 38 10).toNat) (t1.1 38 12) (sx_uf t1.1 38 9 (s.1 29 3), t1.2) t2 → cx_I (sx_uf (sx_uf (sx_uf (sx_uf t2.1 38 11 (t1.1 29 3)) 38 8 (s.2.1 14 (s.1 38 8).toNat)) 38 10 (s.2.1 14 (s.1 38 10).toNat)) 38 12 (s.1 38 12 + 1), t2.2) := fun t1 t2 i1 f1 g1 i2 f2 g2 => by
    have e1 := (g1 trivial).1
    exact cx_I_uf rfl rfl (cx_I_uf rfl rfl (cx_I_uf rfl rfl (cx_I_uf rfl rfl i2 (by omega) (by omega)) (by omega) (by omega)) (by omega) (by omega)) (by omega) (by omega)
  repeat' (first | (with_reducible (rintro _ rfl)) | (with_reducible intro _) | (refine And.intro ?_ ?_) | (refine h_kind (s.1 38 8) s _ hI (by omega) (fun v v1 v2 => ?_); obtain rfl : v = 0 := (v1 p1.1 p1.2).trans k1) | (refine h_kind (s.1 38 10) s _ hI (by omega) (fun v v1 v2 => ?_); obtain rfl : v = 0 := (v1 p2.1 p2.2).trans k2) | (refine h_head (s.1 38 8) s _ hI (by omega) (fun v v1 v2 => ?_); obtain rfl := v1 p1.1 p1.2))
  all_goals (try dsimp only at *)
  all_goals (first | trivial | assumption | omega | (exfalso; omega) | skip)
  refine h_with (s.1 38 9) (s.2.1 13 (s.1 38 8).toNat) (s.1 38 12) s _ hI (by omega) (by omega) (by omega) (by omega) (fun t1 i1 f1 g1 => ?_)
  have e11 : t1.1 11 = s.1 11 := (f1.same 11 rfl).1
  have e38 : t1.1 38 = s.1 38 := (f1.same 38 rfl).1
  have a12 : t1.2.1 13 = s.2.1 13 := (f1.same 13 rfl).2
  have e1 := (g1 trivial).1
  have iA : cx_I (sx_uf t1.1 38 9 (s.1 29 3), t1.2) := cx_I_uf rfl rfl i1 (by omega) (by omega)
  repeat (first | (with_reducible (rintro _ rfl)) | (with_reducible intro _) | (refine And.intro ?_ ?_; (focus first | trivial | assumption | omega)))
  refine h_head (t1.1 38 10) (sx_uf t1.1 38 9 (s.1 29 3), t1.2) _ iA (by rw [e38]; omega) (fun v v1 v2 => ?_)
  obtain rfl : v = (s.2.1 13 (s.1 38 10).toNat) := by
    rw [v1 (by rw [e38]; exact p2.1) (by show t1.1 38 10 < t1.1 11 6; rw [e38, e11]; exact p2.2)]
    show t1.2.1 13 (t1.1 38 10).toNat = _
    rw [e38, a12]
  repeat (first | (with_reducible (rintro _ rfl)) | (with_reducible intro _) | (refine And.intro ?_ ?_; (focus first | trivial | assumption | omega)))
  refine h_with (t1.1 38 11) (s.2.1 13 (s.1 38 10).toNat) (t1.1 38 12) (sx_uf t1.1 38 9 (s.1 29 3), t1.2) _ iA (by show t1.1 29 3 < 1024; omega) (by rw [e38]; omega) (by omega) (by rw [e38]; omega) (fun t2 i2 f2 g2 => ?_)
  have d38 : ∀ k, k ≠ 9 → t2.1 38 k = s.1 38 k := fun k hk => by
    rw [(f2.same 38 rfl).1]
    show sx_uf t1.1 38 9 _ 38 k = _
    rw [sx_uf_if, if_neg (by omega), e38]
  have d11 : t2.1 11 = s.1 11 := by
    rw [(f2.same 11 rfl).1]
    exact e11
  have d14 : t2.2.1 14 = s.2.1 14 := by
    rw [(f2.same 14 rfl).2]
    exact (f1.same 14 rfl).2
  have iB : cx_I (sx_uf t2.1 38 11 (t1.1 29 3), t2.2) := cx_I_uf rfl rfl i2 (by omega) (by omega)
  repeat (first | (with_reducible (rintro _ rfl)) | (with_reducible intro _) | (refine And.intro ?_ ?_; (focus first | trivial | assumption | omega)))
  refine h_body (t2.1 38 8) (sx_uf t2.1 38 11 (t1.1 29 3), t2.2) _ iB (by rw [d38 8 (by decide)]; omega) (fun v v1 v2 => ?_)
  obtain rfl : v = s.2.1 14 (s.1 38 8).toNat := by
    rw [v1 (by rw [d38 8 (by decide)]; exact p1.1) (by show t2.1 38 8 < t2.1 11 6; rw [d38 8 (by decide), d11]; exact p1.2)]
    show t2.2.1 14 (t2.1 38 8).toNat = _
    rw [d38 8 (by decide), d14]
  have iC : cx_I (sx_uf (sx_uf t2.1 38 11 (t1.1 29 3)) 38 8 (s.2.1 14 (s.1 38 8).toNat), t2.2) := cx_I_uf rfl rfl iB (by omega) (by omega)
  repeat (first | (with_reducible (rintro _ rfl)) | (with_reducible intro _) | (refine And.intro ?_ ?_; (focus first | trivial | assumption | omega)))
  refine h_body (t2.1 38 10) (sx_uf (sx_uf t2.1 38 11 (t1.1 29 3)) 38 8 (s.2.1 14 (s.1 38 8).toNat), t2.2) _ iC (by rw [d38 10 (by decide)]; omega) (fun v v1 v2 => ?_)
  obtain rfl : v = s.2.1 14 (s.1 38 10).toNat := by
    rw [v1 (by rw [d38 10 (by decide)]; exact p2.1) (by show t2.1 38 10 < t2.1 11 6; rw [d38 10 (by decide), d11]; exact p2.2)]
    show t2.2.1 14 (t2.1 38 10).toNat = _
    rw [d38 10 (by decide), d14]
  have zz9 := hQ t1 t2 i1 f1 g1 i2 f2 g2 (fin t1 t2 i1 f1 g1 i2 f2 g2)
  have d12 : t2.1 38 12 = s.1 38 12 := d38 12 (by decide)
  have zzk : sx_w true (t2.1 38 12 + 1) = s.1 38 12 + 1 := by rw [d12]; exact zzl
  rw [← zzy, ← zzk] at zz9
  have iD : cx_I (sx_uf (sx_uf (sx_uf t2.1 38 11 (t1.1 29 3)) 38 8 (s.2.1 14 (s.1 38 8).toNat)) 38 10 (s.2.1 14 (s.1 38 10).toNat), t2.2) := cx_I_uf rfl rfl iC (by omega) (by omega)
  refine And.intro iD ?_
  repeat (first | (with_reducible (rintro _ rfl)) | (with_reducible intro _) | (refine And.intro ?_ ?_; (focus first | trivial | assumption | omega)))
  exact zz9
