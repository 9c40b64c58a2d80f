/-! ===== the desk's terms: the j-th ARG; whether an ARG is there; the variable that a long form is ===== -/
def dz_dr : Nat → rf_N → rf_N
  | 0, f => f
  | _ + 1, .leaf => .leaf
  | n + 1, .inner _ _ _ _ x => dz_dr n x
/-- one more -/
theorem dz_dr_s : ∀ (n : Nat) (f : rf_N), dz_dr (n + 1) f = dz_dr 1 (dz_dr n f)
  | 0, f => rfl
  | n + 1, .leaf => rfl
  | n + 1, .inner _ _ _ _ x => dz_dr_s n x
theorem dz_dr_len : ∀ (n : Nat) (f : rf_N), rf_len (dz_dr n f) = rf_len f - n
  | 0, f => rfl
  | n + 1, .leaf => (Nat.zero_sub _).symm
  | n + 1, .inner _ _ _ _ x => by
    show rf_len (dz_dr n x) = rf_len x + 1 - (n + 1)
    rw [dz_dr_len n x]
    omega
theorem dz_ar_dr {A : Nat → Int} : ∀ {n : Nat} {f : rf_N}, dz_ar A f → dz_ar A (dz_dr n f)
  | 0, _, h => h
  | _ + 1, .leaf, _ => trivial
  | n + 1, .inner _ _ _ _ x, h => dz_ar_dr (n := n) (f := x) h.2.2
theorem w_dz_arg {CALL : sx_Ca} {sL : Nat} {sx : Nat → Int32} {Q : Nat → sx_L → sx_S → Prop} {R : Int → sx_S → Prop} {s : sx_S} {a0 a1 : Int} (hI : cx_I s) (p0 : 0 ≤ a0 ∧ a0 < s.1 11 6) (hQ : Q 26 [(0, .inr (.inl 11)), (2, .inl a1), (3, .inl (s.2.1 14 a0.toNat)), (4, .inl 0)] s) : sx_wp true sL sx eX7_argument CALL [(26, [0, 2, 3, 4])] Q R 400 0 (sx_argsF 0 [.inr (.inl 11), .inl a0, .inl a1]) [] s := by
  have h0 := hI.fld 11 6 (by decide) rfl
  repeat' (first | (with_reducible (rintro _ rfl)) | (with_reducible intro _) | (refine And.intro ?_ ?_))
  all_goals (try dsimp only at *)
  all_goals (first | trivial | assumption | omega | (exfalso; omega) | skip)
theorem w_dz_arg_26 {CALL : sx_Ca} {sL : Nat} {sx : Nat → Int32} {Q : Nat → sx_L → sx_S → Prop} {R : Int → sx_S → Prop} {s : sx_S} {a1 x3 x4 : Int} (hI : cx_I s) (p1 : 0 ≤ a1 ∧ a1 ≤ 2000) (q3 : -1 ≤ x3 ∧ x3 < s.1 11 6) (q4 : 0 ≤ x4 ∧ x4 ≤ a1) (hK : x4 = a1 ∨ x3 = -1 → R x3 s) (hQ : x4 < a1 → 0 ≤ x3 → Q 26 [(0, .inr (.inl 11)), (2, .inl a1), (3, .inl (s.2.1 15 x3.toNat)), (4, .inl (x4 + 1))] s) : sx_wp true sL sx eX7_argument CALL [(26, [0, 2, 3, 4])] Q R 400 26 [(0, .inr (.inl 11)), (2, .inl a1), (3, .inl x3), (4, .inl x4)] [] s := by
  have h0 := hI.fld 11 6 (by decide) rfl
  have zzy : sx_w true (x4 + 1) = x4 + 1 := px_wid (by omega) (by omega)
  repeat' (first | (with_reducible (rintro _ rfl)) | (with_reducible intro _) | (refine And.intro ?_ ?_))
  all_goals (try dsimp only at *)
  all_goals (first | trivial | assumption | omega | (exfalso; omega) | (exact hK (by omega)) | (have zz9 := hQ (by omega) (by omega); rw [← zzy] at zz9; exact zz9) | skip)
theorem c_dz_arg {sL : Nat} {sx : Nat → Int32} (hsL : sL ≤ 3072) (d : Nat) (hd : 2 ≤ d) : ∀ (a0 a1 : Int) (f : rf_N) (s : sx_S) (R : Int → sx_S → Prop), cx_I s → (0 ≤ a0 ∧ a0 < s.1 11 6) → (0 ≤ a1 ∧ a1 ≤ 2000) → rf_nd (s.2.1 12) (s.2.1 13) (s.2.1 14) (s.2.1 15) (s.1 11 6) f (s.2.1 14 a0.toNat) → (∀ z : Int, (-1 ≤ z ∧ z < s.1 11 6) → rf_nd (s.2.1 12) (s.2.1 13) (s.2.1 14) (s.2.1 15) (s.1 11 6) (dz_dr a1.toNat f) z → R z s) → sx_C sL sx d 95 [.inr (.inl 11), .inl a0, .inl a1] s R := by
  intro a0 a1 f s R hI p0 p1 hf hK
  have h0 := hI.fld 11 6 (by decide) rfl
  obtain ⟨d, rfl⟩ : ∃ e, d = e + 2 := ⟨d - 2, by omega⟩
  refine sx_methL (wr := true) (n := 400) (n' := 400) (stop := [(26, [0, 2, 3, 4])]) (fun nn pc ls u => pc = 26 ∧ u = s ∧ ∃ (x3 x4 : Int), ls = [(0, .inr (.inl 11)), (2, .inl a1), (3, .inl x3), (4, .inl x4)] ∧ rf_nd (s.2.1 12) (s.2.1 13) (s.2.1 14) (s.2.1 15) (s.1 11 6) (dz_dr x4.toNat f) x3 ∧ 0 ≤ x4 ∧ x4 ≤ a1 ∧ nn = (a1 - x4).toNat) hsL (e := eX7_argument) rfl ?_ ?_
  · exact w_dz_arg hI p0 ⟨_, rfl, rfl, _, _, rfl, hf, by omega, by omega, rfl⟩
  · rintro nn pc ls u ⟨rfl, rfl, x3, x4, rfl, i1, i2, i3, rfl⟩
    have r3 := rf_nd_rng i1
    refine w_dz_arg_26 hI p1 (by omega) (by omega) (fun h => hK x3 (by omega) ?_) (fun h1 h2 => ?_)
    · rcases h with h | h
      · rw [← h]
        exact i1
      · have e := rf_nd_nil i1 h
        obtain ⟨m, hm⟩ : ∃ m, a1.toNat = x4.toNat + m := ⟨a1.toNat - x4.toNat, by omega⟩
        have e2 : dz_dr a1.toNat f = .leaf := by
          rw [hm]
          clear hm
          induction m with
          | zero => exact e
          | succ m ih =>
            show dz_dr (x4.toNat + m + 1) f = _
            rw [dz_dr_s, ih]
            rfl
        rw [e2]
        exact h
    · refine ⟨_, ?_, rfl, rfl, _, _, rfl, ?_, by omega, by omega, rfl⟩
      · omega
      · rw [show (x4 + 1).toNat = x4.toNat + 1 by omega, dz_dr_s]
        obtain ⟨ff, x, e1, _, _, _, e5⟩ := rf_nd_cons i1 (by omega)
        rw [e1]
        exact e5
/-- the heads of a row -/
def dz_hs : rf_N → List Int
  | .leaf => []
  | .inner _ k _ _ x => k.2 :: dz_hs x
theorem dz_hs_len : ∀ f : rf_N, (dz_hs f).length = rf_len f
  | .leaf => rfl
  | .inner _ k _ _ x => by
    show (dz_hs x).length + 1 = _
    rw [dz_hs_len x]
    rfl
theorem dz_hs_snoc (p : rf_N) : ∀ f : rf_N, dz_hs (rf_snoc f p) = dz_hs f ++ dz_hs p
  | .leaf => rfl
  | .inner _ k _ _ x => by
    show k.2 :: dz_hs (rf_snoc x p) = _
    rw [dz_hs_snoc p x]
    rfl

theorem w_dz_has {CALL : sx_Ca} {sL : Nat} {sx : Nat → Int32} {Q : Nat → sx_L → sx_S → Prop} {R : Int → sx_S → Prop} {s : sx_S} {a0 a1 : Int} (hQ : Q 2 [(0, .inr (.inl 11)), (1, .inl a0), (2, .inl a1), (3, .inl 0)] s) : sx_wp true sL sx eX7_hasVariable CALL [(2, [0, 1, 2, 3])] Q R 400 0 (sx_argsF 0 [.inr (.inl 11), .inl a0, .inl a1]) [] s := hQ
theorem w_dz_has_2 {CALL : sx_Ca} {sL : Nat} {sx : Nat → Int32} {Q : Nat → sx_L → sx_S → Prop} {R : Int → sx_S → Prop} (h_arity : ∀ (a0 : Int) (s : sx_S) (K : Int → sx_S → Prop), cx_I s → (-2147483648 ≤ a0 ∧ a0 ≤ 2147483647) → (∀ z : Int, (0 ≤ a0 → a0 < s.1 11 6 → z = s.2.1 16 a0.toNat) → (a0 < 0 → z = 0) → K z s) → CALL 94 [.inr (.inl 11), .inl a0] s K) (h_head : ∀ (a0 : Int) (s : sx_S) (K : Int → sx_S → Prop), cx_I s → (-2147483648 ≤ a0 ∧ a0 ≤ 2147483647) → (∀ z : Int, (0 ≤ a0 → a0 < s.1 11 6 → z = s.2.1 13 a0.toNat) → (a0 < 0 → z = -1) → K z s) → CALL 92 [.inr (.inl 11), .inl a0] s K) {s : sx_S} {a0 a1 x3 w : Int} (h_arg : x3 < s.2.1 16 a0.toNat → ∀ K : Int → sx_S → Prop, K w s → CALL 95 [.inr (.inl 11), .inl a0, .inl x3] s K) (hI : cx_I s) (p0 : 0 ≤ a0 ∧ a0 < s.1 11 6) (p1 : -2147483648 ≤ a1 ∧ a1 ≤ 2147483647) (q3 : 0 ≤ x3 ∧ x3 ≤ s.2.1 16 a0.toNat ∧ s.2.1 16 a0.toNat ≤ 1024) (qw : x3 < s.2.1 16 a0.toNat → 0 ≤ w ∧ w < s.1 11 6) (hK0 : x3 = s.2.1 16 a0.toNat → R 0 s) (hK1 : x3 < s.2.1 16 a0.toNat → s.2.1 13 w.toNat = a1 → R 1 s) (hQ : x3 < s.2.1 16 a0.toNat → s.2.1 13 w.toNat ≠ a1 → Q 2 [(0, .inr (.inl 11)), (1, .inl a0), (2, .inl a1), (3, .inl (x3 + 1))] s) : sx_wp true sL sx eX7_hasVariable CALL [(2, [0, 1, 2, 3])] Q R 400 2 [(0, .inr (.inl 11)), (1, .inl a0), (2, .inl a1), (3, .inl x3)] [] s := by
  have h0 := hI.fld 11 6 (by decide) rfl
  have zzy : sx_w true (x3 + 1) = x3 + 1 := px_wid (by omega) (by omega)
  have zz13 := hI.arr 13 (by decide) rfl w.toNat
  repeat' (first | (with_reducible (rintro _ rfl)) | (with_reducible intro _) | (refine And.intro ?_ ?_) | (refine h_arity _ _ _ ?_ ?_ ?_) | (refine h_head _ _ _ ?_ ?_ ?_) | (refine h_arg (by first | omega | (dsimp only at *; omega)) _ ?_))
  all_goals (try dsimp only at *)
  all_goals (first | trivial | assumption | omega | (exfalso; omega) | (exact hK0 (by omega)) | (exact hK1 (by omega) (by omega)) | (have zz9 := hQ (by omega) (by omega); rw [← zzy] at zz9; exact zz9) | skip)
theorem c_dz_has {sL : Nat} {sx : Nat → Int32} (hsL : sL ≤ 3072) (d : Nat) (hd : 3 ≤ d) : ∀ (a0 a1 : Int) (f : rf_N) (s : sx_S) (R : Int → sx_S → Prop), cx_I s → (0 ≤ a0 ∧ a0 < s.1 11 6) → (-2147483648 ≤ a1 ∧ a1 ≤ 2147483647) → rf_nd (s.2.1 12) (s.2.1 13) (s.2.1 14) (s.2.1 15) (s.1 11 6) f (s.2.1 14 a0.toNat) → s.2.1 16 a0.toNat = (rf_len f : Int) → (rf_len f : Int) ≤ 1024 → (∀ z : Int, (z = 0 ∨ z = 1) → (z ≠ 0 → a1 ∈ dz_hs f) → (z = 0 → a1 ∉ dz_hs f) → R z s) → sx_C sL sx d 96 [.inr (.inl 11), .inl a0, .inl a1] s R := by
  intro a0 a1 f s R hI p0 p1 hf h16 hl hK
  have h0 := hI.fld 11 6 (by decide) rfl
  obtain ⟨d, rfl⟩ : ∃ e, d = e + 2 := ⟨d - 2, by omega⟩
  refine sx_methL (wr := true) (n := 400) (n' := 400) (stop := [(2, [0, 1, 2, 3])]) (fun nn pc ls u => pc = 2 ∧ u = s ∧ ∃ (x3 z : Int), ls = [(0, .inr (.inl 11)), (1, .inl a0), (2, .inl a1), (3, .inl x3)] ∧ rf_nd (s.2.1 12) (s.2.1 13) (s.2.1 14) (s.2.1 15) (s.1 11 6) (dz_dr x3.toNat f) z ∧ 0 ≤ x3 ∧ x3 ≤ (rf_len f : Int) ∧ (a1 ∈ dz_hs f ↔ a1 ∈ dz_hs (dz_dr x3.toNat f)) ∧ nn = ((rf_len f : Int) - x3).toNat) hsL (e := eX7_hasVariable) rfl ?_ ?_
  · exact w_dz_has ⟨_, rfl, rfl, 0, _, rfl, hf, by omega, by omega, Iff.rfl, rfl⟩
  · rintro nn pc ls u ⟨rfl, rfl, x3, z, rfl, i1, i2, i3, i4, rfl⟩
    have ld := dz_dr_len x3.toNat f
    have r3 := rf_nd_rng i1
    by_cases hx : x3 < (rf_len f : Int)
    · have hz : z ≠ -1 := fun e => by
        rw [rf_nd_nil i1 e] at ld
        have : rf_len .leaf = 0 := rfl
        omega
      obtain ⟨ff, x, e1, e2, e3, e4, e5⟩ := rf_nd_cons i1 hz
      have eh : dz_hs (dz_dr x3.toNat f) = u.2.1 13 z.toNat :: dz_hs x := by rw [e1]; rfl
      have ex : dz_dr (x3 + 1).toNat f = x := by
        rw [show (x3 + 1).toNat = x3.toNat + 1 by omega, dz_dr_s, e1]
        rfl
      refine w_dz_has_2 (w := z) (c_dz_arity hsL (d + 1) (by omega)) (c_dz_head hsL (d + 1) (by omega)) (fun _ K hK' => c_dz_arg hsL (d + 1) (by omega) a0 x3 f u K hI p0 (by omega) hf (fun z' _ hz' => ?_)) hI p0 p1 (by omega) (by omega) (fun h => by omega) (fun _ h => hK 1 (Or.inr rfl) (fun _ => i4.mpr ?_) (fun h => absurd h (by decide))) (fun _ h => ?_)
      · have : z' = z := by
          rw [e1] at hz' i1
          exact hz'.1.1.trans i1.1.1.symm
        rw [this]
        exact hK'
      · rw [eh, h]
        exact List.mem_cons_self
      · refine ⟨_, ?_, rfl, rfl, x3 + 1, _, rfl, by rw [ex]; exact e5, by omega, by omega, ?_, rfl⟩
        · omega
        · rw [i4, eh, ex, List.mem_cons]
          exact ⟨fun q => q.elim (fun q => absurd q.symm h) id, Or.inr⟩
    · refine w_dz_has_2 (w := 0) (c_dz_arity hsL (d + 1) (by omega)) (c_dz_head hsL (d + 1) (by omega)) (fun h => absurd h (by omega)) hI p0 p1 (by omega) (by omega) (fun _ => hK 0 (Or.inl rfl) (fun h => absurd rfl h) (fun _ h => ?_)) (fun h => absurd h (by omega)) (fun h => absurd h (by omega))
      · have := i4.mp h
        have e := dz_hs_len (dz_dr x3.toNat f)
        rw [ld, show rf_len f - x3.toNat = 0 by omega] at e
        rw [List.length_eq_zero_iff.mp e] at this
        exact absurd this List.not_mem_nil
