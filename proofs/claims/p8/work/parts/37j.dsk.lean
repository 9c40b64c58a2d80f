/-! ===== the desk's terms: the variable that a long form is, exactly ===== -/
/-- what asVariable answers at depth 5 - g: us: what is bound just outside -/
def dz_av : rf_N → (Nat → List Int → Int → Prop) × (Nat → List Int → Prop)
  | .leaf => (fun _ _ _ => False, fun _ us => us = [])
  | .inner _ k _ f x => (fun g us v => (k.1 = 0 ∧ us.length < 4 ∧ (dz_av f).1 g (us ++ [k.2]) v) ∨ (k.1 = 2 ∧ k.2 = v ∧ ∃ g', g = g' + 1 ∧ (dz_av f).2 g' us), fun g us => ∃ u us', us = u :: us' ∧ ((k.1 = 0 ∧ ([] : List Int).length < 4 ∧ (dz_av f).1 g ([] ++ [k.2]) u) ∨ (k.1 = 2 ∧ k.2 = u ∧ ∃ g', g = g' + 1 ∧ (dz_av f).2 g' [])) ∧ (dz_av x).2 g us')
theorem dz_av_c {j : Nat} {k : Int × Int} {u0 : Unit} {f x : rf_N} {g : Nat} {us : List Int} : (dz_av (.inner j k u0 f x)).2 g us ↔ ∃ u us', us = u :: us' ∧ (dz_av (.inner j k u0 f x)).1 g [] u ∧ (dz_av x).2 g us' := Iff.rfl
theorem dz_av_fun : ∀ {N : rf_N} {g g' : Nat} {us us' : List Int} {v v' : Int}, (dz_av N).1 g us v → (dz_av N).1 g' us' v' → v = v'
  | .leaf, _, _, _, _, _, _, h, _ => h.elim
  | .inner j k _ f x, _, _, _, _, _, _, h, h' => by
    rcases h with ⟨a1, _, a2⟩ | ⟨a1, a2, _⟩ <;> rcases h' with ⟨b1, _, b2⟩ | ⟨b1, b2, _⟩
    · exact dz_av_fun a2 b2
    · omega
    · omega
    · exact a2.symm.trans b2
theorem rf_rf_len {b : rf_N} : ∀ {j : Nat} {n : rf_N}, rf_dn b j n → (rf_rf j n).length = j
  | 0, n, _ => by cases n <;> rfl
  | _ + 1, .leaf, h => h.elim
  | j + 1, .inner _ l _ g _, h => by
    show (rf_rf j g).length + 1 = _
    rw [rf_rf_len h.2]
theorem dz_av_len : ∀ {f : rf_N} {g : Nat} {us : List Int}, (dz_av f).2 g us → us.length = rf_len f
  | .leaf, _, us, h => by
    have e : us = [] := h
    rw [e]
    rfl
  | .inner _ _ _ _ x, _, us, h => by
    obtain ⟨u, us', rfl, _, h3⟩ := h
    show us'.length + 1 = rf_len x + 1
    rw [dz_av_len h3]
theorem w_av {CALL : sx_Ca} {sL : Nat} {sx : Nat → Int32} {Q : Nat → sx_L → sx_S → Prop} {R : Int → sx_S → Prop} {s : sx_S} {a0 a1 : Int} (hQ : Q 8 [(0, .inr (.inl 11)), (1, .inl a0), (2, .inl a1), (3, .inl a0), (4, .inl 0), (5, .inl 0)] s) : sx_wp true sL sx eX7_asVariable CALL [(8, [0, 1, 2, 3, 4, 5]), (69, [0, 2, 3, 4, 5, 6])] Q R 400 0 (sx_argsF 0 [.inr (.inl 11), .inl a0, .inl a1]) [] s := hQ
theorem w_av_8n {CALL : sx_Ca} {sL : Nat} {sx : Nat → Int32} {Q : Nat → sx_L → sx_S → Prop} {R : Int → sx_S → Prop} (h_kind : ∀ (a0 : Int) (s : sx_S) (K : Int → sx_S → Prop), cx_I s → (-2147483648 ≤ a0 ∧ a0 ≤ 2147483647) → (∀ z : Int, (0 ≤ a0 → a0 < s.1 11 6 → z = s.2.1 12 a0.toNat) → (a0 < 0 → z = -1) → K z s) → CALL 91 [.inr (.inl 11), .inl a0] s K) {s : sx_S} {a0 a1 x4 x5 : Int} (hI : cx_I s) (pd : 0 ≤ a1 ∧ a1 ≤ 5) (q5 : 0 ≤ x5 ∧ x5 ≤ 4) (hK : R (-1) s) : sx_wp true sL sx eX7_asVariable CALL [(8, [0, 1, 2, 3, 4, 5]), (69, [0, 2, 3, 4, 5, 6])] Q R 400 8 [(0, .inr (.inl 11)), (1, .inl a0), (2, .inl a1), (3, .inl (-1)), (4, .inl x4), (5, .inl x5)] [] s := by
  repeat' (first | (with_reducible (rintro _ rfl)) | (with_reducible intro _) | (refine And.intro ?_ ?_) | (refine h_kind _ _ _ ?_ ?_ ?_))
  all_goals (try dsimp only at *)
  all_goals (first | trivial | assumption | omega | (exfalso; omega) | skip)
theorem w_av_8 {CALL : sx_Ca} {sL : Nat} {sx : Nat → Int32} {Q : Nat → sx_L → sx_S → Prop} {R : Int → sx_S → Prop} (h_kind : ∀ (a0 : Int) (s : sx_S) (K : Int → sx_S → Prop), cx_I s → (-2147483648 ≤ a0 ∧ a0 ≤ 2147483647) → (∀ z : Int, (0 ≤ a0 → a0 < s.1 11 6 → z = s.2.1 12 a0.toNat) → (a0 < 0 → z = -1) → K z s) → CALL 91 [.inr (.inl 11), .inl a0] s K) (h_body : ∀ (a0 : Int) (s : sx_S) (K : Int → sx_S → Prop), cx_I s → (-2147483648 ≤ a0 ∧ a0 ≤ 2147483647) → (∀ z : Int, (0 ≤ a0 → a0 < s.1 11 6 → z = s.2.1 14 a0.toNat) → (a0 < 0 → z = -1) → K z s) → CALL 93 [.inr (.inl 11), .inl a0] s K) (h_arity : ∀ (a0 : Int) (s : sx_S) (K : Int → sx_S → Prop), cx_I s → (-2147483648 ≤ a0 ∧ a0 ≤ 2147483647) → (∀ z : Int, (0 ≤ a0 → a0 < s.1 11 6 → z = s.2.1 16 a0.toNat) → (a0 < 0 → z = 0) → K z s) → CALL 94 [.inr (.inl 11), .inl a0] s K) {s : sx_S} {a0 a1 x3 x5 : Int} (hI : cx_I s) (pd : 0 ≤ a1 ∧ a1 ≤ 5) (q3 : 0 ≤ x3 ∧ x3 < s.1 11 6) (q5 : 0 ≤ x5 ∧ x5 ≤ 4) (hQ8 : x5 < 4 → s.2.1 12 x3.toNat = 0 → Q 8 [(0, .inr (.inl 11)), (1, .inl a0), (2, .inl a1), (3, .inl (s.2.1 14 x3.toNat)), (4, .inl (x5 + 1)), (5, .inl (x5 + 1))] s) (hK : (s.2.1 12 x3.toNat = 0 → x5 = 4) → (4 < a1 ∨ s.2.1 12 x3.toNat ≠ 2 ∨ s.2.1 16 x3.toNat ≠ x5) → R (-1) s) (hQ69 : s.2.1 12 x3.toNat = 2 → a1 ≤ 4 → s.2.1 16 x3.toNat = x5 → Q 69 [(0, .inr (.inl 11)), (2, .inl a1), (3, .inl x3), (4, .inl x5), (5, .inl a0), (6, .inl 0)] s) : sx_wp true sL sx eX7_asVariable CALL [(8, [0, 1, 2, 3, 4, 5]), (69, [0, 2, 3, 4, 5, 6])] Q R 400 8 [(0, .inr (.inl 11)), (1, .inl a0), (2, .inl a1), (3, .inl x3), (4, .inl x5), (5, .inl x5)] [] s := by
  have h0 := hI.fld 11 6 (by decide) rfl
  have zz12 := hI.arr 12 (by decide) rfl x3.toNat
  have zz14 := hI.arr 14 (by decide) rfl x3.toNat
  have zz16 := hI.arr 16 (by decide) rfl x3.toNat
  have zzy : sx_w true (x5 + 1) = x5 + 1 := px_wid (by omega) (by omega)
  repeat' (first | (with_reducible (rintro _ rfl)) | (with_reducible intro _) | (refine And.intro ?_ ?_) | (refine h_kind _ _ _ ?_ ?_ ?_) | (refine h_body _ _ _ ?_ ?_ ?_) | (refine h_arity _ _ _ ?_ ?_ ?_))
  all_goals (try dsimp only at *)
  all_goals (first | trivial | assumption | omega | (exfalso; omega) | (exact hK (by omega) (by omega)) | (exact hQ69 (by omega) (by omega) (by omega)) | (have zz8 := hQ8 (by omega) (by omega); rw [← zzy] at zz8; have zz7 : _ = s.2.1 14 x3.toNat := (by assumption : 0 ≤ x3 → x3 < s.1 11 6 → _ = s.2.1 14 x3.toNat) q3.1 q3.2; rw [← zz7] at zz8; exact zz8) | skip)
theorem w_av_69 {CALL : sx_Ca} {sL : Nat} {sx : Nat → Int32} {Q : Nat → sx_L → sx_S → Prop} {R : Int → sx_S → Prop} (h_head : ∀ (a0 : Int) (s : sx_S) (K : Int → sx_S → Prop), cx_I s → (-2147483648 ≤ a0 ∧ a0 ≤ 2147483647) → (∀ z : Int, (0 ≤ a0 → a0 < s.1 11 6 → z = s.2.1 13 a0.toNat) → (a0 < 0 → z = -1) → K z s) → CALL 92 [.inr (.inl 11), .inl a0] s K) (h_body : ∀ (a0 : Int) (s : sx_S) (K : Int → sx_S → Prop), cx_I s → (-2147483648 ≤ a0 ∧ a0 ≤ 2147483647) → (∀ z : Int, (0 ≤ a0 → a0 < s.1 11 6 → z = s.2.1 14 a0.toNat) → (a0 < 0 → z = -1) → K z s) → CALL 93 [.inr (.inl 11), .inl a0] s K) {s : sx_S} {a1 x3 x4 x5 x6 : Int} {W Z : Int → Prop} (hI : cx_I s) (pd : 0 ≤ a1 ∧ a1 ≤ 4) (q3 : 0 ≤ x3 ∧ x3 < s.1 11 6) (q6 : 0 ≤ x6 ∧ x6 ≤ x4 ∧ x4 ≤ 4) (q5 : x6 < x4 → 0 ≤ x5 ∧ x5 < s.1 11 6) (h_arg : x6 < x4 → ∀ K : Int → sx_S → Prop, (∀ w : Int, W w → (-1 ≤ w ∧ w ≤ 1023) → K w s) → CALL 95 [.inr (.inl 11), .inl x3, .inl x6] s K) (h_rec : x6 < x4 → ∀ w : Int, W w → ∀ K : Int → sx_S → Prop, (∀ v : Int, Z v → (-2147483648 ≤ v ∧ v ≤ 2147483647) → K v s) → CALL 98 [.inr (.inl 11), .inl w, .inl (a1 + 1)] s K) (hK1 : x6 < x4 → ∀ v : Int, Z v → v ≠ s.2.1 13 x5.toNat → R (-1) s) (hQ : x6 < x4 → ∀ v : Int, Z v → v = s.2.1 13 x5.toNat → Q 69 [(0, .inr (.inl 11)), (2, .inl a1), (3, .inl x3), (4, .inl x4), (5, .inl (s.2.1 14 x5.toNat)), (6, .inl (x6 + 1))] s) (hK2 : x6 = x4 → R (s.2.1 13 x3.toNat) s) : sx_wp true sL sx eX7_asVariable CALL [(8, [0, 1, 2, 3, 4, 5]), (69, [0, 2, 3, 4, 5, 6])] Q R 400 69 [(0, .inr (.inl 11)), (2, .inl a1), (3, .inl x3), (4, .inl x4), (5, .inl x5), (6, .inl x6)] [] s := by
  have h0 := hI.fld 11 6 (by decide) rfl
  have zz13 := hI.arr 13 (by decide) rfl x3.toNat
  have zz13b := hI.arr 13 (by decide) rfl x5.toNat
  have zz14 := hI.arr 14 (by decide) rfl x5.toNat
  have zzy : sx_w true (x6 + 1) = x6 + 1 := px_wid (by omega) (by omega)
  have zzd : sx_w true (a1 + 1) = a1 + 1 := px_wid (by omega) (by omega)
  rw [← zzd] at h_rec
  by_cases hx : x6 < x4
  · have hK1' := hK1 hx
    have hQ' := hQ hx
    have q5' := q5 hx
    repeat' (first | (with_reducible (rintro _ rfl)) | (with_reducible intro _) | (refine And.intro ?_ ?_) | (refine h_head _ _ _ ?_ ?_ ?_) | (refine h_body _ _ _ ?_ ?_ ?_) | (refine h_arg hx _ ?_) | (refine h_rec hx _ (by assumption) _ ?_))
    all_goals (try dsimp only at *)
    all_goals (first | trivial | assumption | omega | (exfalso; omega) | (exact hK1' _ (by assumption) (by omega)) | (have zz8 := hQ' _ (by assumption) (by omega); rw [← zzy] at zz8; have zz7 : _ = s.2.1 14 x5.toNat := (by assumption : 0 ≤ x5 → x5 < s.1 11 6 → _ = s.2.1 14 x5.toNat) q5'.1 q5'.2; rw [← zz7] at zz8; exact zz8) | skip)
  · have hK2' := hK2 (by omega)
    repeat' (first | (with_reducible (rintro _ rfl)) | (with_reducible intro _) | (refine And.intro ?_ ?_) | (refine h_head _ _ _ ?_ ?_ ?_) | (refine h_body _ _ _ ?_ ?_ ?_))
    all_goals (try dsimp only at *)
    all_goals (first | trivial | assumption | omega | (exfalso; omega) | (have zz7 : _ = s.2.1 13 x3.toNat := (by assumption : 0 ≤ x3 → x3 < s.1 11 6 → _ = s.2.1 13 x3.toNat) q3.1 q3.2; rw [← zz7] at hK2'; exact hK2') | skip)
