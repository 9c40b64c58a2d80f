section
/-! ===== the desk's solver: a pair is taken ===== -/
theorem w_dv_tp {CALL : sx_Ca} {sL : Nat} {sx : Nat → Int32} {Q : Nat → sx_L → sx_S → Prop} {R : Int → sx_S → Prop} (h_dv_pop39 : ∀ (s : sx_S) (K : Int → sx_S → Prop), cx_I s → (∀ (z : Int) (t : sx_S), cx_I t → cx_F [(39, 39)] s t → (0 < s.1 39 6 → t.1 39 6 = s.1 39 6 - 1) → K z t) → CALL 62 [.inr (.inl 39)] s K) (h_dv_pmark39 : ∀ (s : sx_S) (K : Int → sx_S → Prop), cx_I s → (∀ z : Int, (s.1 39 6 < 512 → z = s.2.1 45 (s.1 39 6).toNat) → K z s) → CALL 68 [.inr (.inl 39)] s K) (h_dv_rel : ∀ (a0 : Int) (s : sx_S) (K : Int → sx_S → Prop), cx_I s → (-2147483648 ≤ a0 ∧ a0 ≤ 2147483647) → (∀ (z : Int) (t : sx_S), cx_I t → cx_F [(29, 29)] s t → (0 ≤ a0 → a0 ≤ s.1 29 3 → t.1 29 3 = a0) → K z t) → CALL 45 [.inr (.inl 29), .inl a0] s K) (h_dv_pnode39 : ∀ (s : sx_S) (K : Int → sx_S → Prop), cx_I s → (∀ z : Int, (s.1 39 6 < 512 → z = s.2.1 40 (s.1 39 6).toNat) → K z s) → CALL 63 [.inr (.inl 39)] s K) (h_dv_pchain39 : ∀ (s : sx_S) (K : Int → sx_S → Prop), cx_I s → (∀ z : Int, (s.1 39 6 < 512 → z = s.2.1 41 (s.1 39 6).toNat) → K z s) → CALL 64 [.inr (.inl 39)] s K) (h_dv_pother39 : ∀ (s : sx_S) (K : Int → sx_S → Prop), cx_I s → (∀ z : Int, (s.1 39 6 < 512 → z = s.2.1 42 (s.1 39 6).toNat) → K z s) → CALL 65 [.inr (.inl 39)] s K) (h_dv_potherChain39 : ∀ (s : sx_S) (K : Int → sx_S → Prop), cx_I s → (∀ z : Int, (s.1 39 6 < 512 → z = s.2.1 43 (s.1 39 6).toNat) → K z s) → CALL 66 [.inr (.inl 39)] s K) (h_dv_plevel39 : ∀ (s : sx_S) (K : Int → sx_S → Prop), cx_I s → (∀ z : Int, (s.1 39 6 < 512 → z = s.2.1 44 (s.1 39 6).toNat) → K z s) → CALL 67 [.inr (.inl 39)] s K) {s : sx_S} (hI : cx_I s) (p0 : 0 < s.1 39 6) (pm : 0 ≤ s.2.1 45 (s.1 39 6 - 1).toNat ∧ s.2.1 45 (s.1 39 6 - 1).toNat ≤ s.1 29 3) (hQ : ∀ u, cx_I u → cx_F [(29, 29), (38, 39)] s u → u.1 39 6 = s.1 39 6 - 1 → u.1 29 3 = s.2.1 45 (s.1 39 6 - 1).toNat → (u.1 38 8 = s.2.1 40 (s.1 39 6 - 1).toNat ∧ u.1 38 9 = s.2.1 41 (s.1 39 6 - 1).toNat ∧ u.1 38 10 = s.2.1 42 (s.1 39 6 - 1).toNat ∧ u.1 38 11 = s.2.1 43 (s.1 39 6 - 1).toNat ∧ u.1 38 12 = s.2.1 44 (s.1 39 6 - 1).toNat) → Q 78 [(0, .inr (.inl 38)), (1, .inl 0)] u) : sx_wp true sL sx eX6_takePair CALL [(78, [0, 1])] Q R 400 0 (sx_argsF 0 [.inr (.inl 38)]) [] s := by
  have h39 := hI.fld 39 6 (by decide) rfl
  have r45 := hI.arr 45 (by decide) rfl (s.1 39 6 - 1).toNat
  refine h_dv_pop39 _ _ hI (fun z1 t1 i1 f1 e1 => ?_)
  have e1' := e1 p0
  refine h_dv_pmark39 _ _ i1 (fun z2 e2 => ?_)
  have a1 : ∀ p, p ≠ 39 → t1.1 p = s.1 p ∧ t1.2.1 p = s.2.1 p := fun p hp => (f1 p).1 (by
    show cx_out [(39, 39)] p
    simp [cx_out]
    omega)
  have e2' : z2 = s.2.1 45 (s.1 39 6 - 1).toNat := by
    rw [e2 (by omega), e1', (a1 45 (by decide)).2]
  have l1 : t1.1 29 3 = s.1 29 3 := by rw [(a1 29 (by decide)).1]
  refine h_dv_rel _ _ _ i1 (by omega) (fun z3 t2 i2 f2 e3 => ?_)
  have a2 : ∀ p, p ≠ 29 → t2.1 p = t1.1 p ∧ t2.2.1 p = t1.2.1 p := fun p hp => (f2 p).1 (by
    show cx_out [(29, 29)] p
    simp [cx_out]
    omega)
  have e3' : t2.1 29 3 = s.2.1 45 (s.1 39 6 - 1).toNat := by rw [e3 (by omega) (by omega), e2']
  have u39 : t2.1 39 6 = s.1 39 6 - 1 := by rw [(a2 39 (by decide)).1, e1']
  have rr0 := hI.arr 40 (by decide) rfl (s.1 39 6 - 1).toNat
  refine h_dv_pnode39 t2 _ i2 (fun z4 e4 => ?_)
  have ww0 : t2.1 39 6 = t2.1 39 6 := rfl
  have v4 : z4 = s.2.1 40 (s.1 39 6 - 1).toNat := by
    have q := e4 (by show t2.1 39 6 < 512; rw [ww0]; omega)
    have q' : z4 = t2.2.1 40 (t2.1 39 6).toNat := q
    rw [q', ww0, u39, (a2 40 (by decide)).2, (a1 40 (by decide)).2]
  have j4 : cx_I ((sx_uf t2.1 38 8 z4), t2.2) := cx_I_uf rfl rfl i2 (by omega) (by omega)
  have rr1 := hI.arr 41 (by decide) rfl (s.1 39 6 - 1).toNat
  refine h_dv_pchain39 ((sx_uf t2.1 38 8 z4), t2.2) _ j4 (fun z5 e5 => ?_)
  have ww1 : (sx_uf t2.1 38 8 z4) 39 6 = t2.1 39 6 := rfl
  have v5 : z5 = s.2.1 41 (s.1 39 6 - 1).toNat := by
    have q := e5 (by show (sx_uf t2.1 38 8 z4) 39 6 < 512; rw [ww1]; omega)
    have q' : z5 = t2.2.1 41 ((sx_uf t2.1 38 8 z4) 39 6).toNat := q
    rw [q', ww1, u39, (a2 41 (by decide)).2, (a1 41 (by decide)).2]
  have j5 : cx_I ((sx_uf (sx_uf t2.1 38 8 z4) 38 9 z5), t2.2) := cx_I_uf rfl rfl j4 (by omega) (by omega)
  have rr2 := hI.arr 42 (by decide) rfl (s.1 39 6 - 1).toNat
  refine h_dv_pother39 ((sx_uf (sx_uf t2.1 38 8 z4) 38 9 z5), t2.2) _ j5 (fun z6 e6 => ?_)
  have ww2 : (sx_uf (sx_uf t2.1 38 8 z4) 38 9 z5) 39 6 = t2.1 39 6 := rfl
  have v6 : z6 = s.2.1 42 (s.1 39 6 - 1).toNat := by
    have q := e6 (by show (sx_uf (sx_uf t2.1 38 8 z4) 38 9 z5) 39 6 < 512; rw [ww2]; omega)
    have q' : z6 = t2.2.1 42 ((sx_uf (sx_uf t2.1 38 8 z4) 38 9 z5) 39 6).toNat := q
    rw [q', ww2, u39, (a2 42 (by decide)).2, (a1 42 (by decide)).2]
  have j6 : cx_I ((sx_uf (sx_uf (sx_uf t2.1 38 8 z4) 38 9 z5) 38 10 z6), t2.2) := cx_I_uf rfl rfl j5 (by omega) (by omega)
  have rr3 := hI.arr 43 (by decide) rfl (s.1 39 6 - 1).toNat
  refine h_dv_potherChain39 ((sx_uf (sx_uf (sx_uf t2.1 38 8 z4) 38 9 z5) 38 10 z6), t2.2) _ j6 (fun z7 e7 => ?_)
  have ww3 : (sx_uf (sx_uf (sx_uf t2.1 38 8 z4) 38 9 z5) 38 10 z6) 39 6 = t2.1 39 6 := rfl
  have v7 : z7 = s.2.1 43 (s.1 39 6 - 1).toNat := by
    have q := e7 (by show (sx_uf (sx_uf (sx_uf t2.1 38 8 z4) 38 9 z5) 38 10 z6) 39 6 < 512; rw [ww3]; omega)
    have q' : z7 = t2.2.1 43 ((sx_uf (sx_uf (sx_uf t2.1 38 8 z4) 38 9 z5) 38 10 z6) 39 6).toNat := q
    rw [q', ww3, u39, (a2 43 (by decide)).2, (a1 43 (by decide)).2]
  have j7 : cx_I ((sx_uf (sx_uf (sx_uf (sx_uf t2.1 38 8 z4) 38 9 z5) 38 10 z6) 38 11 z7), t2.2) := cx_I_uf rfl rfl j6 (by omega) (by omega)
  have rr4 := hI.arr 44 (by decide) rfl (s.1 39 6 - 1).toNat
  refine h_dv_plevel39 ((sx_uf (sx_uf (sx_uf (sx_uf t2.1 38 8 z4) 38 9 z5) 38 10 z6) 38 11 z7), t2.2) _ j7 (fun z8 e8 => ?_)
  have ww4 : (sx_uf (sx_uf (sx_uf (sx_uf t2.1 38 8 z4) 38 9 z5) 38 10 z6) 38 11 z7) 39 6 = t2.1 39 6 := rfl
  have v8 : z8 = s.2.1 44 (s.1 39 6 - 1).toNat := by
    have q := e8 (by show (sx_uf (sx_uf (sx_uf (sx_uf t2.1 38 8 z4) 38 9 z5) 38 10 z6) 38 11 z7) 39 6 < 512; rw [ww4]; omega)
    have q' : z8 = t2.2.1 44 ((sx_uf (sx_uf (sx_uf (sx_uf t2.1 38 8 z4) 38 9 z5) 38 10 z6) 38 11 z7) 39 6).toNat := q
    rw [q', ww4, u39, (a2 44 (by decide)).2, (a1 44 (by decide)).2]
  have j8 : cx_I ((sx_uf (sx_uf (sx_uf (sx_uf (sx_uf t2.1 38 8 z4) 38 9 z5) 38 10 z6) 38 11 z7) 38 12 z8), t2.2) := cx_I_uf rfl rfl j7 (by omega) (by omega)
  refine hQ _ j8 (cx_F_uf rfl (cx_F_uf rfl (cx_F_uf rfl (cx_F_uf rfl (cx_F_uf rfl (cx_F_step f2 rfl (cx_F_step f1 rfl (cx_F_refl _ _)))))))) ?_ ?_ ⟨?_, ?_, ?_, ?_, ?_⟩
  · exact u39
  · exact e3'
  · show _ = _
    rw [← v4]
    rfl
  · show _ = _
    rw [← v5]
    rfl
  · show _ = _
    rw [← v6]
    rfl
  · show _ = _
    rw [← v7]
    rfl
  · show _ = _
    rw [← v8]
    rfl

theorem w_dv_tp78n {CALL : sx_Ca} {sL : Nat} {sx : Nat → Int32} {Q : Nat → sx_L → sx_S → Prop} {R : Int → sx_S → Prop} (h_kind : ∀ (a0 : Int) (s : sx_S) (K : Int → sx_S → Prop), cx_I s → (-2147483648 ≤ a0 ∧ a0 ≤ 2147483647) → (∀ z : Int, (0 ≤ a0 → a0 < s.1 11 6 → z = s.2.1 12 a0.toNat) → (a0 < 0 → z = -1) → K z s) → CALL 91 [.inr (.inl 11), .inl a0] s K) {s : sx_S} {x1 : Int} (hI : cx_I s) (p1 : 0 ≤ (s.1 38 8) ∧ (s.1 38 8) < s.1 11 6) (p2 : 0 ≤ (s.1 38 10) ∧ (s.1 38 10) < s.1 11 6) (q1 : 0 ≤ x1 ∧ x1 ≤ 1024) (hn : s.2.1 12 (s.1 38 8).toNat ≠ 0 ∨ s.2.1 12 (s.1 38 10).toNat ≠ 0) (hK : R 0 s) : sx_wp true sL sx eX6_takePair CALL [(78, [0, 1])] Q R 400 78 [(0, .inr (.inl 38)), (1, .inl x1)] [] s := by
  have h0 := hI.fld 11 6 (by decide) rfl
  have r1 := hI.arr 12 (by decide) rfl (s.1 38 8).toNat
  have r2 := hI.arr 12 (by decide) rfl (s.1 38 10).toNat
  repeat' (first | (with_reducible (rintro _ rfl)) | (with_reducible intro _) | (refine And.intro ?_ ?_) | (refine h_kind (s.1 38 8) s _ hI (by omega) (fun v v1 v2 => ?_); obtain rfl := v1 p1.1 p1.2) | (refine h_kind (s.1 38 10) s _ hI (by omega) (fun v v1 v2 => ?_); obtain rfl := v1 p2.1 p2.2))
  all_goals (try dsimp only at *)
  all_goals (first | trivial | assumption | omega | (exfalso; omega) | skip)
theorem w_dv_tp78y {CALL : sx_Ca} {sL : Nat} {sx : Nat → Int32} {Q : Nat → sx_L → sx_S → Prop} {R : Int → sx_S → Prop} (h_kind : ∀ (a0 : Int) (s : sx_S) (K : Int → sx_S → Prop), cx_I s → (-2147483648 ≤ a0 ∧ a0 ≤ 2147483647) → (∀ z : Int, (0 ≤ a0 → a0 < s.1 11 6 → z = s.2.1 12 a0.toNat) → (a0 < 0 → z = -1) → K z s) → CALL 91 [.inr (.inl 11), .inl a0] s K) (h_head : ∀ (a0 : Int) (s : sx_S) (K : Int → sx_S → Prop), cx_I s → (-2147483648 ≤ a0 ∧ a0 ≤ 2147483647) → (∀ z : Int, (0 ≤ a0 → a0 < s.1 11 6 → z = s.2.1 13 a0.toNat) → (a0 < 0 → z = -1) → K z s) → CALL 92 [.inr (.inl 11), .inl a0] s K) (h_body : ∀ (a0 : Int) (s : sx_S) (K : Int → sx_S → Prop), cx_I s → (-2147483648 ≤ a0 ∧ a0 ≤ 2147483647) → (∀ z : Int, (0 ≤ a0 → a0 < s.1 11 6 → z = s.2.1 14 a0.toNat) → (a0 < 0 → z = -1) → K z s) → CALL 93 [.inr (.inl 11), .inl a0] s K) (h_with : ∀ (a0 a1 a2 : Int) (s : sx_S) (R : Int → sx_S → Prop), cx_I s → s.1 29 3 < 1024 → (-2147483648 ≤ a0 ∧ a0 ≤ 2147483647) → (-2147483648 ≤ a1 ∧ a1 ≤ 2147483647) → (-2147483648 ≤ a2 ∧ a2 ≤ 2147483647) → (∀ t, cx_I t → cx_F [(29, 32)] s t → dv_w1 a0 a1 a2 s t → R (s.1 29 3) t) → CALL 46 [.inr (.inl 29), .inl a0, .inl a1, .inl a2] s R) {s : sx_S} {x1 : Int} (hI : cx_I s) (p1 : 0 ≤ (s.1 38 8) ∧ (s.1 38 8) < s.1 11 6) (p2 : 0 ≤ (s.1 38 10) ∧ (s.1 38 10) < s.1 11 6) (q1 : 0 ≤ x1 ∧ x1 < 1024) (k1 : s.2.1 12 (s.1 38 8).toNat = 0) (k2 : s.2.1 12 (s.1 38 10).toNat = 0) (hL : -2147483648 ≤ s.1 38 12 ∧ s.1 38 12 < 2147483647) (hU : s.1 29 3 + 2 ≤ 1024) (hQ : ∀ t1 t2, cx_I t1 → cx_F [(29, 32)] s t1 → dv_w1 (s.1 38 9) (s.2.1 13 (s.1 38 8).toNat) (s.1 38 12) s t1 → cx_I t2 → cx_F [(29, 32)] (sx_uf t1.1 38 9 (s.1 29 3), t1.2) t2 → dv_w1 (t1.1 38 11) (s.2.1 13 (s.1 38 10).toNat) (t1.1 38 12) (sx_uf t1.1 38 9 (s.1 29 3), t1.2) t2 → cx_I (sx_uf (sx_uf (sx_uf (sx_uf t2.1 38 11 (t1.1 29 3)) 38 8 (s.2.1 14 (s.1 38 8).toNat)) 38 10 (s.2.1 14 (s.1 38 10).toNat)) 38 12 (s.1 38 12 + 1), t2.2) → Q 78 [(0, .inr (.inl 38)), (1, .inl (x1 + 1))] (sx_uf (sx_uf (sx_uf (sx_uf t2.1 38 11 (t1.1 29 3)) 38 8 (s.2.1 14 (s.1 38 8).toNat)) 38 10 (s.2.1 14 (s.1 38 10).toNat)) 38 12 (s.1 38 12 + 1), t2.2)) : sx_wp true sL sx eX6_takePair CALL [(78, [0, 1])] Q R 400 78 [(0, .inr (.inl 38)), (1, .inl x1)] [] s := by
  have h0 := hI.fld 11 6 (by decide) rfl
  have h29 := hI.fld 29 3 (by decide) rfl
  have r9 := hI.fld 38 9 (by decide) rfl
  have r11 := hI.fld 38 11 (by decide) rfl
  have ra := hI.arr 13 (by decide) rfl (s.1 38 8).toNat
  have rb := hI.arr 13 (by decide) rfl (s.1 38 10).toNat
  have rc := hI.arr 14 (by decide) rfl (s.1 38 8).toNat
  have rd := hI.arr 14 (by decide) rfl (s.1 38 10).toNat
  have zzy : sx_w true (x1 + 1) = x1 + 1 := px_wid (by omega) (by omega)
  have zzl : sx_w true (s.1 38 12 + 1) = s.1 38 12 + 1 := px_wid (by omega) (by omega)
  have fin : ∀ t1 t2, cx_I t1 → cx_F [(29, 32)] s t1 → dv_w1 (s.1 38 9) (s.2.1 13 (s.1 38 8).toNat) (s.1 38 12) s t1 → cx_I t2 → cx_F [(29, 32)] (sx_uf t1.1 38 9 (s.1 29 3), t1.2) t2 → dv_w1 (t1.1 38 11) (s.2.1 13 (s.1 38 10).toNat) (t1.1 38 12) (sx_uf t1.1 38 9 (s.1 29 3), t1.2) t2 → cx_I (sx_uf (sx_uf (sx_uf (sx_uf t2.1 38 11 (t1.1 29 3)) 38 8 (s.2.1 14 (s.1 38 8).toNat)) 38 10 (s.2.1 14 (s.1 38 10).toNat)) 38 12 (s.1 38 12 + 1), t2.2) := fun t1 t2 i1 f1 g1 i2 f2 g2 => by
    have e1 := (g1 trivial).1
    exact cx_I_uf rfl rfl (cx_I_uf rfl rfl (cx_I_uf rfl rfl (cx_I_uf rfl rfl i2 (by omega) (by omega)) (by omega) (by omega)) (by omega) (by omega)) (by omega) (by omega)
  repeat' (first | (with_reducible (rintro _ rfl)) | (with_reducible intro _) | (refine And.intro ?_ ?_) | (refine h_kind (s.1 38 8) s _ hI (by omega) (fun v v1 v2 => ?_); obtain rfl : v = 0 := (v1 p1.1 p1.2).trans k1) | (refine h_kind (s.1 38 10) s _ hI (by omega) (fun v v1 v2 => ?_); obtain rfl : v = 0 := (v1 p2.1 p2.2).trans k2) | (refine h_head (s.1 38 8) s _ hI (by omega) (fun v v1 v2 => ?_); obtain rfl := v1 p1.1 p1.2))
  all_goals (try dsimp only at *)
  all_goals (first | trivial | assumption | omega | (exfalso; omega) | skip)
  refine h_with (s.1 38 9) (s.2.1 13 (s.1 38 8).toNat) (s.1 38 12) s _ hI (by omega) (by omega) (by omega) (by omega) (fun t1 i1 f1 g1 => ?_)
  have e11 : t1.1 11 = s.1 11 := (f1.same 11 rfl).1
  have e38 : t1.1 38 = s.1 38 := (f1.same 38 rfl).1
  have a12 : t1.2.1 13 = s.2.1 13 := (f1.same 13 rfl).2
  have e1 := (g1 trivial).1
  have iA : cx_I (sx_uf t1.1 38 9 (s.1 29 3), t1.2) := cx_I_uf rfl rfl i1 (by omega) (by omega)
  repeat (first | (with_reducible (rintro _ rfl)) | (with_reducible intro _) | (refine And.intro ?_ ?_; (focus first | trivial | assumption | omega)))
  refine h_head (t1.1 38 10) (sx_uf t1.1 38 9 (s.1 29 3), t1.2) _ iA (by rw [e38]; omega) (fun v v1 v2 => ?_)
  obtain rfl : v = (s.2.1 13 (s.1 38 10).toNat) := by
    rw [v1 (by rw [e38]; exact p2.1) (by show t1.1 38 10 < t1.1 11 6; rw [e38, e11]; exact p2.2)]
    show t1.2.1 13 (t1.1 38 10).toNat = _
    rw [e38, a12]
  repeat (first | (with_reducible (rintro _ rfl)) | (with_reducible intro _) | (refine And.intro ?_ ?_; (focus first | trivial | assumption | omega)))
  refine h_with (t1.1 38 11) (s.2.1 13 (s.1 38 10).toNat) (t1.1 38 12) (sx_uf t1.1 38 9 (s.1 29 3), t1.2) _ iA (by show t1.1 29 3 < 1024; omega) (by rw [e38]; omega) (by omega) (by rw [e38]; omega) (fun t2 i2 f2 g2 => ?_)
  have d38 : ∀ k, k ≠ 9 → t2.1 38 k = s.1 38 k := fun k hk => by
    rw [(f2.same 38 rfl).1]
    show sx_uf t1.1 38 9 _ 38 k = _
    rw [sx_uf_if, if_neg (by omega), e38]
  have d11 : t2.1 11 = s.1 11 := by
    rw [(f2.same 11 rfl).1]
    exact e11
  have d14 : t2.2.1 14 = s.2.1 14 := by
    rw [(f2.same 14 rfl).2]
    exact (f1.same 14 rfl).2
  have iB : cx_I (sx_uf t2.1 38 11 (t1.1 29 3), t2.2) := cx_I_uf rfl rfl i2 (by omega) (by omega)
  repeat (first | (with_reducible (rintro _ rfl)) | (with_reducible intro _) | (refine And.intro ?_ ?_; (focus first | trivial | assumption | omega)))
  refine h_body (t2.1 38 8) (sx_uf t2.1 38 11 (t1.1 29 3), t2.2) _ iB (by rw [d38 8 (by decide)]; omega) (fun v v1 v2 => ?_)
  obtain rfl : v = s.2.1 14 (s.1 38 8).toNat := by
    rw [v1 (by rw [d38 8 (by decide)]; exact p1.1) (by show t2.1 38 8 < t2.1 11 6; rw [d38 8 (by decide), d11]; exact p1.2)]
    show t2.2.1 14 (t2.1 38 8).toNat = _
    rw [d38 8 (by decide), d14]
  have iC : cx_I (sx_uf (sx_uf t2.1 38 11 (t1.1 29 3)) 38 8 (s.2.1 14 (s.1 38 8).toNat), t2.2) := cx_I_uf rfl rfl iB (by omega) (by omega)
  repeat (first | (with_reducible (rintro _ rfl)) | (with_reducible intro _) | (refine And.intro ?_ ?_; (focus first | trivial | assumption | omega)))
  refine h_body (t2.1 38 10) (sx_uf (sx_uf t2.1 38 11 (t1.1 29 3)) 38 8 (s.2.1 14 (s.1 38 8).toNat), t2.2) _ iC (by rw [d38 10 (by decide)]; omega) (fun v v1 v2 => ?_)
  obtain rfl : v = s.2.1 14 (s.1 38 10).toNat := by
    rw [v1 (by rw [d38 10 (by decide)]; exact p2.1) (by show t2.1 38 10 < t2.1 11 6; rw [d38 10 (by decide), d11]; exact p2.2)]
    show t2.2.1 14 (t2.1 38 10).toNat = _
    rw [d38 10 (by decide), d14]
  have zz9 := hQ t1 t2 i1 f1 g1 i2 f2 g2 (fin t1 t2 i1 f1 g1 i2 f2 g2)
  have d12 : t2.1 38 12 = s.1 38 12 := d38 12 (by decide)
  have zzk : sx_w true (t2.1 38 12 + 1) = s.1 38 12 + 1 := by rw [d12]; exact zzl
  rw [← zzy, ← zzk] at zz9
  have iD : cx_I (sx_uf (sx_uf (sx_uf t2.1 38 11 (t1.1 29 3)) 38 8 (s.2.1 14 (s.1 38 8).toNat)) 38 10 (s.2.1 14 (s.1 38 10).toNat), t2.2) := cx_I_uf rfl rfl iC (by omega) (by omega)
  refine And.intro iD ?_
  repeat (first | (with_reducible (rintro _ rfl)) | (with_reducible intro _) | (refine And.intro ?_ ?_; (focus first | trivial | assumption | omega)))
  exact zz9
end
section
/-! ===== a pair: what both sides share; below two \ ===== -/
def vx_lh : rf_N → Nat
  | .leaf => 0
  | .inner _ q _ F X => max (if q.1 = 3 then 0 else if q.1 = 0 then vx_lh F + 1 else vx_lh F) (vx_lh X)
def vx_hh : rf_N → Nat
  | .leaf => 0
  | .inner _ q _ F X => max (if q.1 = 3 then 0 else if q.1 = 0 then vx_hh F else vx_hh F + 1) (vx_hh X)
/-- how many nodes; a call is one -/
def vx_hz : rf_N → Nat
  | .leaf => 0
  | .inner _ q _ F X => (if q.1 = 3 then 1 else vx_hz F + 1) + vx_hz X
theorem vx_hz_in (j : Nat) (q : Int × Int) (u : Unit) (F X : rf_N) : vx_hz (.inner j q u F X) = (if q.1 = 3 then 1 else vx_hz F + 1) + vx_hz X := rfl
theorem vx_hz_lam {j : Nat} {k h : Int} {F : rf_N} (h3 : k ≠ 3) : vx_hz (rf_n j k h F .leaf) = vx_hz F + 1 := by
  rw [vx_hz_in, if_neg h3]
  rfl
theorem vx_hz_call {j : Nat} {m : Int} {F : rf_N} : vx_hz (rf_n j 3 m F .leaf) = 1 := by
  rw [vx_hz_in, if_pos rfl]
  rfl
theorem vx_hz_el {A : rf_N} : ∀ {F : rf_N}, A ∈ vx_el F → vx_hz A ≤ vx_hz F
  | .leaf, h => absurd h List.not_mem_nil
  | .inner j q u F X, h => by
    rw [vx_hz_in]
    rcases List.mem_cons.mp h with rfl | h
    · rw [vx_hz_in]
      have e1 : vx_hz .leaf = 0 := rfl
      omega
    · have := vx_hz_el h
      omega
theorem vx_lh_in (j : Nat) (q : Int × Int) (u : Unit) (F X : rf_N) : vx_lh (.inner j q u F X) = max (if q.1 = 3 then 0 else if q.1 = 0 then vx_lh F + 1 else vx_lh F) (vx_lh X) := rfl
theorem vx_hh_in (j : Nat) (q : Int × Int) (u : Unit) (F X : rf_N) : vx_hh (.inner j q u F X) = max (if q.1 = 3 then 0 else if q.1 = 0 then vx_hh F else vx_hh F + 1) (vx_hh X) := rfl
theorem vx_lh_lam {j : Nat} {x : Int} {F : rf_N} : vx_lh (rf_n j 0 x F .leaf) = vx_lh F + 1 ∧ vx_hh (rf_n j 0 x F .leaf) = vx_hh F := by
  rw [vx_lh_in, vx_hh_in, if_neg vx_03, if_pos rfl, if_neg vx_03, if_pos rfl]
  exact ⟨Nat.max_eq_left (Nat.zero_le _), Nat.max_eq_left (Nat.zero_le _)⟩
theorem vx_lh_rig {j : Nat} {k h : Int} {F : rf_N} (h0 : k ≠ 0) (h3 : k ≠ 3) : vx_lh (rf_n j k h F .leaf) = vx_lh F ∧ vx_hh (rf_n j k h F .leaf) = vx_hh F + 1 := by
  rw [vx_lh_in, vx_hh_in, if_neg h3, if_neg h0, if_neg h3, if_neg h0]
  exact ⟨Nat.max_eq_left (Nat.zero_le _), Nat.max_eq_left (Nat.zero_le _)⟩
theorem vx_lh_el {A : rf_N} : ∀ {F : rf_N}, A ∈ vx_el F → vx_lh A ≤ vx_lh F ∧ vx_hh A ≤ vx_hh F
  | .leaf, h => absurd h List.not_mem_nil
  | .inner j q u F X, h => by
    rw [vx_lh_in, vx_hh_in]
    rcases List.mem_cons.mp h with rfl | h
    · rw [vx_lh_in, vx_hh_in]
      have e1 : vx_lh .leaf = 0 := rfl
      have e2 : vx_hh .leaf = 0 := rfl
      rw [e1, e2]
      exact ⟨by omega, by omega⟩
    · have := vx_lh_el h
      exact ⟨by omega, by omega⟩
def vx_isl (A : rf_N) : Prop := ∃ (j : Nat) (x : Int) (F : rf_N), A = rf_n j 0 x F .leaf
/-- both sides of a pair: of one type, with the same types of what is bound -/
def vx_2 (tv tc : Int → rf_T) (tm : Int → Int → rf_T) (S : vx_S) (A : rf_N) (c : List (Int × Int)) (B : rf_N) (d : List (Int × Int)) (L : Int) : Prop := True → ∃ lt t, vx_sd tv tc tm S lt L t A c ∧ vx_sd tv tc tm S lt L t B d
/-- n times a \ taken off -/
def vx_sl : Nat → rf_N → List (Int × Int) → Int → rf_N → List (Int × Int) → Prop
  | 0, A, c, _, A', c' => A = A' ∧ c = c'
  | n + 1, A, c, L, A', c' => ∃ (j : Nat) (x : Int) (F : rf_N), A = rf_n j 0 x F .leaf ∧ vx_sl n F ((x, L) :: c) (L + 1) A' c'
theorem vx_sl_t : ∀ {n m : Nat} {A A' A'' : rf_N} {c c' c'' : List (Int × Int)} {L L' : Int}, L' = L + (n : Int) → vx_sl n A c L A' c' → vx_sl m A' c' L' A'' c'' → vx_sl (m + n) A c L A'' c''
  | 0, m, A, A', A'', c, c', c'', L, L', eL, ⟨e1, e2⟩, h2 => by
    rw [e1, e2, show L = L' by omega]
    exact h2
  | n + 1, m, A, A', A'', c, c', c'', L, L', eL, ⟨j, x, F, e, h1⟩, h2 => ⟨j, x, F, e, vx_sl_t (by omega) h1 h2⟩
/-- on the way down from one pair to another: the same equations -/
def vx_rd (S : vx_S) (A : rf_N) (c : List (Int × Int)) (B : rf_N) (d : List (Int × Int)) (L : Int) (A' : rf_N) (c' : List (Int × Int)) (B' : rf_N) (d' : List (Int × Int)) (L' : Int) : Prop := True → (∀ th, vx_So S th → (vx_pe th S.2.2.2.2 ((A, dv_lk c), (B, dv_lk d), L) ↔ vx_pe th S.2.2.2.2 ((A', dv_lk c'), (B', dv_lk d'), L'))) ∧ (vx_hh A' ≤ vx_hh A ∧ vx_hh B' ≤ vx_hh B ∧ vx_lh A' ≤ vx_lh A ∧ vx_lh B' ≤ vx_lh B ∧ vx_hz A' ≤ vx_hz A ∧ vx_hz B' ≤ vx_hz B) ∧ (∀ m, vx_mt m A' → vx_mt m A) ∧ (∀ m, vx_mt m B' → vx_mt m B) ∧ ∃ n : Nat, L' = L + (n : Int) ∧ vx_sl n A c L A' c' ∧ vx_sl n B d L B' d'
section
variable {tv tc : Int → rf_T} {tm : Int → Int → rf_T} {S : vx_S} {L : Int}
theorem vx_rd_refl {A B : rf_N} {c d : List (Int × Int)} : vx_rd S A c B d L A c B d L := fun _ => ⟨fun _ _ => Iff.rfl, ⟨Nat.le_refl _, Nat.le_refl _, Nat.le_refl _, Nat.le_refl _, Nat.le_refl _, Nat.le_refl _⟩, fun _ h => h, fun _ h => h, 0, by omega, ⟨rfl, rfl⟩, ⟨rfl, rfl⟩⟩
theorem vx_rd_t {L' L'' : Int} {A B A' B' A'' B'' : rf_N} {c d c' d' c'' d'' : List (Int × Int)} (h1 : vx_rd S A c B d L A' c' B' d' L') (h2 : vx_rd S A' c' B' d' L' A'' c'' B'' d'' L'') : vx_rd S A c B d L A'' c'' B'' d'' L'' := fun _ => by
  obtain ⟨a1, ⟨a2, a3, a6, a7, a8, a9⟩, a4, a5, n1, eL1, sl1, sr1⟩ := h1 trivial
  obtain ⟨b1, ⟨b2, b3, b6, b7, b8, b9⟩, b4, b5, n2, eL2, sl2, sr2⟩ := h2 trivial
  exact ⟨fun th hS => (a1 th hS).trans (b1 th hS), ⟨by omega, by omega, by omega, by omega, by omega, by omega⟩, fun m h => a4 m (b4 m h), fun m h => a5 m (b5 m h), n2 + n1, by omega, vx_sl_t eL1 sl1 sl2, vx_sl_t eL1 sr1 sr2⟩
/-- the one is a \ just if the other is -/
theorem vx_2_lam {A B : rf_N} {c d : List (Int × Int)} (h : vx_2 tv tc tm S A c B d L) : vx_isl A ↔ vx_isl B := by
  obtain ⟨lt, t, h1, h2⟩ := h trivial
  have key : ∀ {A : rf_N} {c : List (Int × Int)}, vx_sd tv tc tm S lt L t A c → (vx_isl A ↔ t ≠ rf_b) := fun {A c} h => by
    obtain ⟨⟨_, ⟨j, k, hh, F, rfl⟩, a3⟩, _⟩ := h trivial
    rcases a3 with ⟨q, C, q1, _⟩ | ⟨q, q1, _⟩ | ⟨q, q1, _⟩ | ⟨q, q1, _⟩
    · have q' : k = 0 := q
      rw [q', q1]
      exact ⟨fun _ e => (by cases e), fun _ => ⟨_, _, _, rfl⟩⟩
    all_goals
      refine ⟨fun ⟨j', x, F', e⟩ => ?_, fun e => absurd q1 e⟩
      injection e with _ e2
      have e3 : k = 0 := (Prod.mk.inj e2).1
      have q' := q
      dsimp only at q'
      omega
  rw [key h1, key h2]
theorem vx_2_dn {j j' : Nat} {x y : Int} {F G : rf_N} {c d : List (Int × Int)} (hF : vx_sg F) (hG : vx_sg G) (h : vx_2 tv tc tm S (rf_n j 0 x F .leaf) c (rf_n j' 0 y G .leaf) d L) : vx_2 tv tc tm S F ((x, L) :: c) G ((y, L) :: d) (L + 1) := fun _ => by
  obtain ⟨lt, t, h1, h2⟩ := h trivial
  obtain ⟨B, e1, g1⟩ := vx_sd_lam hF h1
  obtain ⟨B', e2, g2⟩ := vx_sd_lam hG h2
  rw [e1] at e2
  have a1 : tv x = tv y := by injection e2
  have a2 : B = B' := by injection e2
  rw [← a1, ← a2] at g2
  exact ⟨_, B, g1, g2⟩
theorem vx_rd_dn {j j' : Nat} {x y : Int} {F G : rf_N} {c d : List (Int × Int)} : vx_rd S (rf_n j 0 x F .leaf) c (rf_n j' 0 y G .leaf) d L F ((x, L) :: c) G ((y, L) :: d) (L + 1) := fun _ => by
  refine ⟨fun th hS => ?_, ⟨by rw [(vx_lh_lam (j := j) (x := x) (F := F)).2]; exact Nat.le_refl _, by rw [(vx_lh_lam (j := j') (x := y) (F := G)).2]; exact Nat.le_refl _, by rw [(vx_lh_lam (j := j) (x := x) (F := F)).1]; omega, by rw [(vx_lh_lam (j := j') (x := y) (F := G)).1]; omega, by rw [vx_hz_lam vx_03]; omega, by rw [vx_hz_lam vx_03]; omega⟩, fun m hm => Or.inr (Or.inl ⟨by show (0 : Int) ≠ 3; decide, hm⟩), fun m hm => Or.inr (Or.inl ⟨by show (0 : Int) ≠ 3; decide, hm⟩), 1, by omega, ⟨j, x, F, rfl, rfl, rfl⟩, ⟨j', y, G, rfl, rfl, rfl⟩⟩
  rw [dv_lk_up, dv_lk_up]
  exact vx_eq_lam
end
/-- the pair that the solver looks at -/
def dv_cu (u : sx_S) (AR : Nat → List Int) (A : rf_N) (c : List (Int × Int)) (B : rf_N) (d : List (Int × Int)) (L : Int) : Prop := True → (dv_at u AR A (u.1 38 8) ∧ dv_c u c (u.1 29 3) (u.1 38 9)) ∧ (dv_at u AR B (u.1 38 10) ∧ dv_c u d (u.1 29 3) (u.1 38 11)) ∧ u.1 38 12 = L
/-- the links below m stay -/
def dv_lm (m : Int) (s u : sx_S) : Prop := True → m ≤ u.1 29 3 ∧ ∀ j : Nat, (j : Int) < m → u.2.1 30 j = s.2.1 30 j ∧ u.2.1 31 j = s.2.1 31 j ∧ u.2.1 32 j = s.2.1 32 j
end
section
/-! ===== a pair is taken, down to two heads ===== -/
theorem c_dv_tp {tv tc : Int → rf_T} {tm : Int → Int → rf_T} {sL : Nat} {sx : Nat → Int32} (hsL : sL ≤ 3072) (d : Nat) (hd : 3 ≤ d) : ∀ (S : vx_S) (p : dv_E) (r : List dv_E) (s : sx_S) (K : Int → sx_S → Prop), cx_I s → dv_ps s S.2.2.2.2 (s.1 29 3) (p :: r) → s.1 39 6 = (r.length : Int) + 1 → vx_2 tv tc tm S p.1.1 p.1.2 p.2.1.1 p.2.1.2 p.2.2.1 → p.2.2.2 + (vx_lh p.1.1 : Int) + (vx_lh p.2.1.1 : Int) ≤ 1024 → p.2.2.1 + (vx_lh p.1.1 : Int) ≤ 100000 → (∀ u A c B d L, cx_I u → cx_F [(29, 32), (38, 39)] s u → u.1 39 6 = (r.length : Int) → dv_lm p.2.2.2 s u → dv_cu u S.2.2.2.2 A c B d L → vx_2 tv tc tm S A c B d L → (¬ vx_isl A ∧ ¬ vx_isl B) → vx_rd S p.1.1 p.1.2 p.2.1.1 p.2.1.2 p.2.2.1 A c B d L → (u.1 29 3 + (vx_lh A : Int) + (vx_lh B : Int) ≤ p.2.2.2 + (vx_lh p.1.1 : Int) + (vx_lh p.2.1.1 : Int) ∧ L + (vx_lh A : Int) ≤ p.2.2.1 + (vx_lh p.1.1 : Int) ∧ p.2.2.1 ≤ L) → K 0 u) → sx_C sL sx d 72 [.inr (.inl 38)] s K := by
  intro S p r s K hI hp h39 h2 hc hl hK
  obtain ⟨⟨m1, m2⟩, ⟨m3, m4⟩, ⟨m5, m6⟩, ⟨m7, m8⟩, m9⟩ := hp
  have en : (s.1 39 6 - 1).toNat = r.length := by omega
  obtain ⟨d, rfl⟩ : ∃ e, d = e + 2 := ⟨d - 2, by omega⟩
  have L0 : 0 ≤ p.2.2.1 := by
    obtain ⟨lt, t, g1, _⟩ := h2 trivial
    exact (g1 trivial).2.2.1.1
  refine sx_methL (wr := true) (n := 400) (n' := 400) (stop := [(78, [0, 1])]) (fun nn pc ls u => pc = 78 ∧ ∃ (x1 : Nat) (A : rf_N) (c : List (Int × Int)) (B : rf_N) (e : List (Int × Int)) (L : Int), ls = [(0, .inr (.inl 38)), (1, .inl (x1 : Int))] ∧ cx_I u ∧ cx_F [(29, 32), (38, 39)] s u ∧ u.1 39 6 = (r.length : Int) ∧ dv_lm p.2.2.2 s u ∧ dv_cu u S.2.2.2.2 A c B e L ∧ vx_2 tv tc tm S A c B e L ∧ vx_rd S p.1.1 p.1.2 p.2.1.1 p.2.1.2 p.2.2.1 A c B e L ∧ (u.1 29 3 + (vx_lh A : Int) + (vx_lh B : Int) ≤ p.2.2.2 + (vx_lh p.1.1 : Int) + (vx_lh p.2.1.1 : Int) ∧ L + (vx_lh A : Int) ≤ p.2.2.1 + (vx_lh p.1.1 : Int) ∧ p.2.2.1 ≤ L) ∧ x1 + vx_lh A ≤ vx_lh p.1.1 ∧ nn = vx_lh A) hsL (e := eX6_takePair) rfl ?_ ?_
  · refine w_dv_tp (c_dv_pop39 hsL (d + 1) (by omega)) (c_dv_pmark39 hsL (d + 1) (by omega)) (c_dv_rel hsL (d + 1) (by omega)) (c_dv_pnode39 hsL (d + 1) (by omega)) (c_dv_pchain39 hsL (d + 1) (by omega)) (c_dv_pother39 hsL (d + 1) (by omega)) (c_dv_potherChain39 hsL (d + 1) (by omega)) (c_dv_plevel39 hsL (d + 1) (by omega)) hI (by omega) (by rw [en, m8]; omega) (fun u u1 u2 u3 u4 u5 => ?_)
    rw [en] at u4 u5
    rw [m8] at u4
    obtain ⟨v1, v2, v3, v4, v5⟩ := u5
    have a : ∀ q, q ≠ 29 → q ≠ 38 → q ≠ 39 → u.1 q = s.1 q ∧ u.2.1 q = s.2.1 q := fun q h1 h2 h3 => (u2 q).1 (by
      show cx_out [(29, 29), (38, 39)] q
      simp [cx_out]
      omega)
    have hnf : dv_nf (s.1 11 6) S.2.2.2.2 S.2.2.2.2 s u := fun _ => ⟨fun _ => ⟨by rw [(a 11 (by decide) (by decide) (by decide)).1]; exact Int.le_refl _, fun j _ => by rw [(a 12 (by decide) (by decide) (by decide)).2, (a 13 (by decide) (by decide) (by decide)).2, (a 14 (by decide) (by decide) (by decide)).2, (a 15 (by decide) (by decide) (by decide)).2, (a 16 (by decide) (by decide) (by decide)).2]; exact ⟨rfl, rfl, rfl, rfl, rfl⟩⟩, fun _ _ => rfl⟩
    have hlk : ∀ j : Nat, (j : Int) < p.2.2.2 → u.2.1 30 j = s.2.1 30 j ∧ u.2.1 31 j = s.2.1 31 j ∧ u.2.1 32 j = s.2.1 32 j := fun j _ => by
      rw [(a 30 (by decide) (by decide) (by decide)).2, (a 31 (by decide) (by decide) (by decide)).2, (a 32 (by decide) (by decide) (by decide)).2]
      exact ⟨rfl, rfl, rfl⟩
    refine ⟨_, rfl, 0, _, _, _, _, _, rfl, u1, cx_F_step u2 rfl (cx_F_refl _ _), by omega, fun _ => ⟨by omega, hlk⟩, fun _ => ⟨⟨?_, ?_⟩, ⟨?_, ?_⟩, ?_⟩, h2, vx_rd_refl, ⟨by omega, by omega, by omega⟩, by omega, rfl⟩
    · rw [v1]
      exact dv_at_fr (Int.le_refl _) hnf m3
    · rw [v2, u4]
      exact dv_ch_fr hlk m4
    · rw [v3]
      exact dv_at_fr (Int.le_refl _) hnf m5
    · rw [v4, u4]
      exact dv_ch_fr hlk m6
    · rw [v5]
      exact m7
  · rintro nn pc ls u ⟨rfl, x1, A, c, B, e, L, rfl, i1, i2, i3, i4, i5, i6, i7, ⟨i8, i9, i10⟩, i11, rfl⟩
    obtain ⟨⟨c1, c2⟩, ⟨c3, c4⟩, c5⟩ := i5 trivial
    have z1 := dv_at_z c1
    have z2 := dv_at_z c3
    have h29 := i1.fld 29 3 (by decide) rfl
    have hlam := vx_2_lam i6
    have hA : vx_sg A := by
      obtain ⟨lt, t, g1, _⟩ := i6 trivial
      exact (g1 trivial).1.2.1
    have hB : vx_sg B := by
      obtain ⟨lt, t, _, g1⟩ := i6 trivial
      exact (g1 trivial).1.2.1
    by_cases hq : vx_isl A
    · obtain ⟨j', y, G, rfl⟩ := hlam.mp hq
      obtain ⟨j, x, F, rfl⟩ := hq
      obtain ⟨⟨k1, k2, k3⟩, k4⟩ := dv_at_lam c1
      obtain ⟨⟨l1, l2, l3⟩, l4⟩ := dv_at_lam c3
      have hF : vx_sg F := by
        obtain ⟨a, b, cc, dd, ee, _⟩ := k4
        exact ⟨a, b, cc, dd, ee⟩
      have hG : vx_sg G := by
        obtain ⟨a, b, cc, dd, ee, _⟩ := l4
        exact ⟨a, b, cc, dd, ee⟩
      have lf := (vx_lh_lam (j := j) (x := x) (F := F)).1
      have lg := (vx_lh_lam (j := j') (x := y) (F := G)).1
      rw [lf] at i8 i9 i11
      rw [lg] at i8
      refine w_dv_tp78y (c_dz_kind hsL (d + 1) (by omega)) (c_dz_head hsL (d + 1) (by omega)) (c_dz_body hsL (d + 1) (by omega)) (c_dv_with hsL (d + 1) (by omega)) i1 z1 z2 (by omega) k1 l1 (by omega) (by omega) (fun t1 t2 a1 a2 a3 b1 b2 b3 b4 => ?_)
      have e38 : t1.1 38 = u.1 38 := (a2.same 38 rfl).1
      have w1 := (a3 trivial).1
      have w2 : t2.1 29 3 = t1.1 29 3 + 1 := (b3 trivial).1
      have lf1 := dv_w1_lf a3
      have lf2 : dv_lf t1 t2 := fun _ => (dv_w1_lf b3) trivial
      have lf3 := dv_lf_t lf1 lf2
      have cA : dv_c t1 ((x, L) :: c) (t1.1 29 3) (u.1 29 3) := by
        rw [k2, c5] at a3
        exact dv_w1_c h29.1 a3 (Int.le_refl _) c2
      have cA2 : dv_c t2 ((x, L) :: c) (t2.1 29 3) (u.1 29 3) := dv_ch_hi (by omega) (dv_c_lf lf2 (Int.le_refl _) cA)
      have cB1 : dv_c t1 e (u.1 29 3) (u.1 38 11) := dv_c_lf lf1 (Int.le_refl _) c4
      have cB : dv_c t2 ((y, L) :: e) (t2.1 29 3) (t1.1 29 3) := by
        rw [l2, e38, c5] at b3
        exact dv_w1_c (s := (sx_uf t1.1 38 9 (u.1 29 3), t1.2)) (by show 0 ≤ t1.1 29 3; omega) b3 (hi := t1.1 29 3) (Int.le_refl _) (dv_ch_hi (by omega) cB1)
      have g11 : t2.1 11 = u.1 11 := by rw [(b2.same 11 rfl).1]; exact (a2.same 11 rfl).1
      have gar : ∀ q, q = 12 ∨ q = 13 ∨ q = 14 ∨ q = 15 ∨ q = 16 → t2.2.1 q = u.2.1 q := fun q hq => by
        rcases hq with rfl | rfl | rfl | rfl | rfl
        · rw [(b2.same 12 rfl).2]; exact (a2.same 12 rfl).2
        · rw [(b2.same 13 rfl).2]; exact (a2.same 13 rfl).2
        · rw [(b2.same 14 rfl).2]; exact (a2.same 14 rfl).2
        · rw [(b2.same 15 rfl).2]; exact (a2.same 15 rfl).2
        · rw [(b2.same 16 rfl).2]; exact (a2.same 16 rfl).2
      have hnf : dv_nf (u.1 11 6) S.2.2.2.2 S.2.2.2.2 u (sx_uf (sx_uf (sx_uf (sx_uf t2.1 38 11 (t1.1 29 3)) 38 8 (u.2.1 14 (u.1 38 8).toNat)) 38 10 (u.2.1 14 (u.1 38 10).toNat)) 38 12 (u.1 38 12 + 1), t2.2) := fun _ => ⟨fun _ => ⟨by show u.1 11 6 ≤ t2.1 11 6; rw [g11]; exact Int.le_refl _, fun j _ => by
        show t2.2.1 12 j = _ ∧ t2.2.1 13 j = _ ∧ t2.2.1 14 j = _ ∧ t2.2.1 15 j = _ ∧ t2.2.1 16 j = _
        rw [gar 12 (by decide), gar 13 (by decide), gar 14 (by decide), gar 15 (by decide), gar 16 (by decide)]
        exact ⟨rfl, rfl, rfl, rfl, rfl⟩⟩, fun _ _ => rfl⟩
      refine ⟨vx_lh F, by rw [lf]; omega, rfl, x1 + 1, F, (x, L) :: c, G, (y, L) :: e, L + 1, rfl, b4, ?_, ?_, fun _ => ⟨?_, fun q hq => ?_⟩, fun _ => ⟨⟨?_, ?_⟩, ⟨?_, ?_⟩, ?_⟩, vx_2_dn hF hG i6, vx_rd_t i7 vx_rd_dn, ⟨?_, by omega, by omega⟩, by omega, rfl⟩
      · exact cx_F_uf rfl (cx_F_uf rfl (cx_F_uf rfl (cx_F_uf rfl (cx_F_step b2 rfl (cx_F_uf rfl (cx_F_step a2 rfl i2))))))
      · show t2.1 39 6 = _
        rw [(b2.same 39 rfl).1]
        show t1.1 39 6 = _
        rw [(a2.same 39 rfl).1]
        exact i3
      · show p.2.2.2 ≤ t2.1 29 3
        have := (i4 trivial).1
        omega
      · have q1 := (i4 trivial).2 q hq
        have q2 := (lf3 trivial).2 q (by have := (i4 trivial).1; omega)
        exact ⟨q2.1.trans q1.1, q2.2.1.trans q1.2.1, q2.2.2.trans q1.2.2⟩
      · exact dv_at_fr (Int.le_refl _) hnf k4
      · show dv_c t2 ((x, L) :: c) (t2.1 29 3) (t2.1 38 9)
        rw [(b2.same 38 rfl).1]
        exact cA2
      · exact dv_at_fr (Int.le_refl _) hnf l4
      · exact cB
      · show u.1 38 12 + 1 = L + 1
        omega
      · show t2.1 29 3 + _ + _ ≤ _
        omega
    · have hq' : ¬ vx_isl B := fun h => hq (hlam.mpr h)
      obtain ⟨j, k, h, F, rfl⟩ := hA
      have hh := dv_at_hd c1
      refine w_dv_tp78n (c_dz_kind hsL (d + 1) (by omega)) i1 z1 z2 (by omega) (Or.inl ?_) (hK u _ c B e L i1 i2 i3 i4 i5 i6 ⟨hq, hq'⟩ i7 ⟨i8, i9, i10⟩)
      rw [hh.2.2.1]
      intro hk
      exact hq ⟨j, h, F, by rw [hk]⟩
end
section
/-! ===== the desk's solver: two heads are taken apart ===== -/
theorem w_dv_ta {CALL : sx_Ca} {sL : Nat} {sx : Nat → Int32} {Q : Nat → sx_L → sx_S → Prop} {R : Int → sx_S → Prop} (h_kind : ∀ (a0 : Int) (s : sx_S) (K : Int → sx_S → Prop), cx_I s → (-2147483648 ≤ a0 ∧ a0 ≤ 2147483647) → (∀ z : Int, (0 ≤ a0 → a0 < s.1 11 6 → z = s.2.1 12 a0.toNat) → (a0 < 0 → z = -1) → K z s) → CALL 91 [.inr (.inl 11), .inl a0] s K) (h_head : ∀ (a0 : Int) (s : sx_S) (K : Int → sx_S → Prop), cx_I s → (-2147483648 ≤ a0 ∧ a0 ≤ 2147483647) → (∀ z : Int, (0 ≤ a0 → a0 < s.1 11 6 → z = s.2.1 13 a0.toNat) → (a0 < 0 → z = -1) → K z s) → CALL 92 [.inr (.inl 11), .inl a0] s K) (h_arity : ∀ (a0 : Int) (s : sx_S) (K : Int → sx_S → Prop), cx_I s → (-2147483648 ≤ a0 ∧ a0 ≤ 2147483647) → (∀ z : Int, (0 ≤ a0 → a0 < s.1 11 6 → z = s.2.1 16 a0.toNat) → (a0 < 0 → z = 0) → K z s) → CALL 94 [.inr (.inl 11), .inl a0] s K) {s : sx_S} {lv lv' : Int} (h_of1 : (s.2.1 12 (s.1 38 8).toNat) = 2 → ∀ K : Int → sx_S → Prop, K lv s → CALL 47 [.inr (.inl 29), .inl (s.1 38 9), .inl (s.2.1 13 (s.1 38 8).toNat)] s K) (h_of2 : (s.2.1 12 (s.1 38 8).toNat) = 2 → ∀ K : Int → sx_S → Prop, K lv' s → CALL 47 [.inr (.inl 29), .inl (s.1 38 11), .inl (s.2.1 13 (s.1 38 10).toNat)] s K) (hI : cx_I s) (p1 : 0 ≤ (s.1 38 8) ∧ (s.1 38 8) < s.1 11 6) (p2 : 0 ≤ (s.1 38 10) ∧ (s.1 38 10) < s.1 11 6) (rl : -2147483648 ≤ lv ∧ lv ≤ 2147483647) (rl' : -2147483648 ≤ lv' ∧ lv' ≤ 2147483647) (pn : 0 ≤ (s.2.1 16 (s.1 38 8).toNat) ∧ (s.2.1 16 (s.1 38 8).toNat) ≤ 4) (hK : (s.2.1 12 (s.1 38 8).toNat) ≠ (s.2.1 12 (s.1 38 10).toNat) ∨ (s.2.1 16 (s.1 38 8).toNat) ≠ (s.2.1 16 (s.1 38 10).toNat) → R 0 s) (hQ1 : (s.2.1 12 (s.1 38 8).toNat) = (s.2.1 12 (s.1 38 10).toNat) → (s.2.1 16 (s.1 38 8).toNat) = (s.2.1 16 (s.1 38 10).toNat) → ((s.2.1 12 (s.1 38 8).toNat) = 2 → lv = lv') → ((s.2.1 12 (s.1 38 8).toNat) ≠ 2 → (s.2.1 13 (s.1 38 8).toNat) = (s.2.1 13 (s.1 38 10).toNat)) → Q 165 [(0, .inr (.inl 38)), (1, .inl 1), (2, .inl ((s.2.1 16 (s.1 38 8).toNat) - 1))] s) (hQ0 : (s.2.1 12 (s.1 38 8).toNat) = (s.2.1 12 (s.1 38 10).toNat) → (s.2.1 16 (s.1 38 8).toNat) = (s.2.1 16 (s.1 38 10).toNat) → ((s.2.1 12 (s.1 38 8).toNat) = 2 ∧ lv ≠ lv' ∨ (s.2.1 12 (s.1 38 8).toNat) ≠ 2 ∧ (s.2.1 13 (s.1 38 8).toNat) ≠ (s.2.1 13 (s.1 38 10).toNat)) → Q 165 [(0, .inr (.inl 38)), (1, .inl 0), (2, .inl ((s.2.1 16 (s.1 38 8).toNat) - 1))] s) : sx_wp true sL sx eX6_takeApart CALL [(165, [0, 1, 2])] Q R 400 0 (sx_argsF 0 [.inr (.inl 38)]) [] s := by
  have h0 := hI.fld 11 6 (by decide) rfl
  have ra := hI.arr 12 (by decide) rfl (s.1 38 8).toNat
  have rb := hI.arr 12 (by decide) rfl (s.1 38 10).toNat
  have rc := hI.arr 13 (by decide) rfl (s.1 38 8).toNat
  have rd := hI.arr 13 (by decide) rfl (s.1 38 10).toNat
  have re := hI.arr 16 (by decide) rfl (s.1 38 10).toNat
  have zzy : sx_w true ((s.2.1 16 (s.1 38 8).toNat) - 1) = (s.2.1 16 (s.1 38 8).toNat) - 1 := px_wid (by omega) (by omega)
  repeat' (first | (with_reducible (rintro _ rfl)) | (with_reducible intro _) | (refine And.intro ?_ ?_) | (refine h_kind (s.1 38 8) s _ hI (by omega) (fun v v1 v2 => ?_); obtain rfl := v1 p1.1 p1.2) | (refine h_kind (s.1 38 10) s _ hI (by omega) (fun v v1 v2 => ?_); obtain rfl := v1 p2.1 p2.2) | (refine h_arity (s.1 38 8) s _ hI (by omega) (fun v v1 v2 => ?_); obtain rfl := v1 p1.1 p1.2) | (refine h_arity (s.1 38 10) s _ hI (by omega) (fun v v1 v2 => ?_); obtain rfl := v1 p2.1 p2.2) | (refine h_head (s.1 38 8) s _ hI (by omega) (fun v v1 v2 => ?_); obtain rfl := v1 p1.1 p1.2) | (refine h_head (s.1 38 10) s _ hI (by omega) (fun v v1 v2 => ?_); obtain rfl := v1 p2.1 p2.2) | (refine h_of1 (by omega) _ ?_) | (refine h_of2 (by omega) _ ?_))
  all_goals (try dsimp only at *)
  all_goals (first | trivial | assumption | omega | (exfalso; omega) | (exact hK (by omega)) | (have zz9 := hQ1 (by omega) (by omega) (by omega) (by omega); rw [← zzy] at zz9; exact zz9) | (have zz9 := hQ0 (by omega) (by omega) (by omega); rw [← zzy] at zz9; exact zz9) | skip)
theorem w_dv_ta165 {CALL : sx_Ca} {sL : Nat} {sx : Nat → Int32} {Q : Nat → sx_L → sx_S → Prop} {R : Int → sx_S → Prop} (h_dv_mark : ∀ (s : sx_S) (K : Int → sx_S → Prop), cx_I s → (∀ z : Int, (z = s.1 29 3) → K z s) → CALL 44 [.inr (.inl 29)] s K) (h_pair : ∀ (a0 a1 a2 a3 a4 a5 : Int) (s : sx_S) (R : Int → sx_S → Prop), cx_I s → s.1 39 6 < 512 → (-2147483648 ≤ a0 ∧ a0 ≤ 2147483647) → (-2147483648 ≤ a1 ∧ a1 ≤ 2147483647) → (-2147483648 ≤ a2 ∧ a2 ≤ 2147483647) → (-2147483648 ≤ a3 ∧ a3 ≤ 2147483647) → (-2147483648 ≤ a4 ∧ a4 ≤ 2147483647) → (-2147483648 ≤ a5 ∧ a5 ≤ 2147483647) → (∀ z t, cx_I t → cx_F [(39, 45)] s t → dv_pu 39 (a0, a1, a2, a3, a4, a5) s t → R z t) → CALL 61 [.inr (.inl 39), .inl a0, .inl a1, .inl a2, .inl a3, .inl a4, .inl a5] s R) {s : sx_S} {x1 x2 w w' : Int} (h_arg1 : 0 ≤ x2 → x1 = 1 → ∀ K : Int → sx_S → Prop, K w s → CALL 95 [.inr (.inl 11), .inl (s.1 38 8), .inl x2] s K) (h_arg2 : 0 ≤ x2 → x1 = 1 → ∀ K : Int → sx_S → Prop, K w' s → CALL 95 [.inr (.inl 11), .inl (s.1 38 10), .inl x2] s K) (hI : cx_I s) (q1 : x1 = 0 ∨ x1 = 1) (q2 : -1 ≤ x2 ∧ x2 ≤ 3) (qw : 0 ≤ x2 → x1 = 1 → (0 ≤ w ∧ w < s.1 11 6) ∧ (0 ≤ w' ∧ w' < s.1 11 6)) (hN : 0 ≤ x2 → s.1 39 6 < 512) (hK : x2 < 0 ∨ x1 = 0 → R x1 s) (hQ : 0 ≤ x2 → x1 = 1 → ∀ t, cx_I t → cx_F [(39, 45)] s t → dv_pu 39 (w, (s.1 38 9), w', (s.1 38 11), (s.1 38 12), s.1 29 3) s t → Q 165 [(0, .inr (.inl 38)), (1, .inl x1), (2, .inl (x2 - 1))] t) : sx_wp true sL sx eX6_takeApart CALL [(165, [0, 1, 2])] Q R 400 165 [(0, .inr (.inl 38)), (1, .inl x1), (2, .inl x2)] [] s := by
  have h0 := hI.fld 11 6 (by decide) rfl
  have h29 := hI.fld 29 3 (by decide) rfl
  have r9 := hI.fld 38 9 (by decide) rfl
  have r11 := hI.fld 38 11 (by decide) rfl
  have r12 := hI.fld 38 12 (by decide) rfl
  have zzy : sx_w true (x2 + (-1)) = x2 - 1 := by rw [px_wid (by omega) (by omega)]; omega
  repeat' (first | (with_reducible (rintro _ rfl)) | (with_reducible intro _) | (refine And.intro ?_ ?_) | (refine h_arg1 (by omega) (by omega) _ ?_) | (refine h_arg2 (by omega) (by omega) _ ?_) | (refine h_dv_mark _ _ hI (fun v v1 => ?_); obtain rfl := v1) | (refine h_pair _ _ _ _ _ _ s _ hI (hN (by omega)) (by have := qw (by omega) (by omega); omega) (by omega) (by have := qw (by omega) (by omega); omega) (by omega) (by omega) (by omega) (fun z t t1 t2 t3 => ?_)))
  all_goals (try dsimp only at *)
  all_goals (first | trivial | assumption | omega | (exfalso; omega) | (exact hK (by omega)) | (have zz9 := hQ (by omega) (by omega) _ t1 t2 t3; rw [← zzy] at zz9; exact zz9) | skip)
end
