section
/-! ===== the desk's solver: unifies, its loops' pieces ===== -/
theorem w_dv_un {CALL : sx_Ca} {sL : Nat} {sx : Nat → Int32} {Q : Nat → sx_L → sx_S → Prop} {R : Int → sx_S → Prop} (h_dv_unk : ∀ (s : sx_S) (K : Int → sx_S → Prop), cx_I s → (∀ z : Int, (z = s.1 22 2) → K z s) → CALL 15 [.inr (.inl 18)] s K) (h_dv_eqs : ∀ (s : sx_S) (K : Int → sx_S → Prop), cx_I s → (∀ z : Int, (z = s.1 18 10) → K z s) → CALL 16 [.inr (.inl 18)] s K) (h_dv_rel : ∀ (a0 : Int) (s : sx_S) (K : Int → sx_S → Prop), cx_I s → (-2147483648 ≤ a0 ∧ a0 ≤ 2147483647) → (∀ (z : Int) (t : sx_S), cx_I t → cx_F [(29, 29)] s t → (0 ≤ a0 → a0 ≤ s.1 29 3 → t.1 29 3 = a0) → K z t) → CALL 45 [.inr (.inl 29), .inl a0] s K) (h_dv_pclear39 : ∀ (s : sx_S) (K : Int → sx_S → Prop), cx_I s → (∀ (z : Int) (t : sx_S), cx_I t → cx_F [(39, 39)] s t → (t.1 39 6 = 0) → K z t) → CALL 58 [.inr (.inl 39)] s K) (h_cl : ∀ (a0 : Int) (s : sx_S) (K : Int → sx_S → Prop), cx_I s → (0 ≤ a0 ∧ a0 ≤ 32) → (∀ t, cx_I t → cx_F [(33, 35)] s t → t.1 33 6 = a0 → (∀ i : Nat, i < 32 → t.2.1 34 i = -1) → (∀ i : Nat, i < 32 → t.2.1 35 i = 0) → K 0 t) → CALL 1 [.inr (.inl 33), .inl a0] s K) {s : sx_S} (hI : cx_I s) (hQ : ∀ t, cx_I t → cx_F [(29, 29), (33, 35), (39, 39)] s t → t.1 33 6 = s.1 22 2 → (∀ i : Nat, i < 32 → t.2.1 34 i = -1) → (∀ i : Nat, i < 32 → t.2.1 35 i = 0) → t.1 29 3 = 0 → t.1 39 6 = 0 → Q 33 [(0, .inr (.inl 38)), (1, .inr (.inl 18)), (2, .inl (s.1 18 10 - 1))] t) : sx_wp true sL sx eX6_unifies CALL [(33, [0, 1, 2]), (70, [0, 2, 3])] Q R 400 0 (sx_argsF 0 [.inr (.inl 38), .inr (.inl 18)]) [] s := by
  have h22 := hI.fld 22 2 (by decide) rfl
  have h18 := hI.fld 18 10 (by decide) rfl
  have zzy : sx_w true (s.1 18 10 - 1) = s.1 18 10 - 1 := px_wid (by omega) (by omega)
  refine h_dv_unk s _ hI (fun v v1 => ?_)
  obtain rfl := v1
  refine h_cl _ s _ hI (by omega) (fun t1 i1 f1 e1 e2 e3 => ?_)
  have h29 := i1.fld 29 3 (by decide) rfl
  refine h_dv_rel 0 t1 _ i1 (by omega) (fun z2 t2 i2 f2 e4 => ?_)
  refine h_dv_pclear39 t2 _ i2 (fun z3 t3 i3 f3 e5 => ?_)
  refine h_dv_eqs t3 _ i3 (fun v v1 => ?_)
  have hF : cx_F [(29, 29), (33, 35), (39, 39)] s t3 := cx_F_step f3 rfl (cx_F_step f2 rfl (cx_F_step f1 rfl (cx_F_refl _ _)))
  have ev : v = s.1 18 10 := by rw [v1, (hF.same 18 rfl).1]
  obtain rfl := ev
  have zz9 := hQ t3 i3 hF (by rw [(f3.same 33 rfl).1, (f2.same 33 rfl).1]; exact e1) (fun i hi => by rw [(f3.same 34 rfl).2, (f2.same 34 rfl).2]; exact e2 i hi) (fun i hi => by rw [(f3.same 35 rfl).2, (f2.same 35 rfl).2]; exact e3 i hi) (by rw [(f3.same 29 rfl).1]; exact e4 (by omega) h29.1) e5
  rw [← zzy] at zz9
  exact zz9
theorem w_dv_un33 {CALL : sx_Ca} {sL : Nat} {sx : Nat → Int32} {Q : Nat → sx_L → sx_S → Prop} {R : Int → sx_S → Prop} (h_rt : ∀ (a0 a1 : Int) (s : sx_S) (K : Int → sx_S → Prop), cx_I s → (0 ≤ a0 ∧ a0 < s.1 18 10) → (0 ≤ a1 ∧ a1 ≤ 1) → K (s.2.1 26 (2 * a0 + a1).toNat) s → CALL 18 [.inr (.inl 18), .inl a0, .inl a1] s K) (h_pair : ∀ (a0 a1 a2 a3 a4 a5 : Int) (s : sx_S) (R : Int → sx_S → Prop), cx_I s → s.1 39 6 < 512 → (-2147483648 ≤ a0 ∧ a0 ≤ 2147483647) → (-2147483648 ≤ a1 ∧ a1 ≤ 2147483647) → (-2147483648 ≤ a2 ∧ a2 ≤ 2147483647) → (-2147483648 ≤ a3 ∧ a3 ≤ 2147483647) → (-2147483648 ≤ a4 ∧ a4 ≤ 2147483647) → (-2147483648 ≤ a5 ∧ a5 ≤ 2147483647) → (∀ z t, cx_I t → cx_F [(39, 45)] s t → dv_pu 39 (a0, a1, a2, a3, a4, a5) s t → R z t) → CALL 61 [.inr (.inl 39), .inl a0, .inl a1, .inl a2, .inl a3, .inl a4, .inl a5] s R) {s : sx_S} {x2 : Int} (hI : cx_I s) (q2 : -1 ≤ x2 ∧ x2 < s.1 18 10) (hN : s.1 39 6 < 512) (r26 : 0 ≤ x2 → (-2147483648 ≤ s.2.1 26 (2 * x2 + 0).toNat ∧ s.2.1 26 (2 * x2 + 0).toNat ≤ 2147483647) ∧ (-2147483648 ≤ s.2.1 26 (2 * x2 + 1).toNat ∧ s.2.1 26 (2 * x2 + 1).toNat ≤ 2147483647)) (hQ0 : x2 < 0 → Q 70 [(0, .inr (.inl 38)), (2, .inl 1), (3, .inl 0)] s) (hQ1 : 0 ≤ x2 → ∀ t, cx_I t → cx_F [(39, 45)] s t → dv_pu 39 (s.2.1 26 (2 * x2 + 0).toNat, -1, s.2.1 26 (2 * x2 + 1).toNat, -1, 0, 0) s t → Q 33 [(0, .inr (.inl 38)), (1, .inr (.inl 18)), (2, .inl (x2 - 1))] t) : sx_wp true sL sx eX6_unifies CALL [(33, [0, 1, 2]), (70, [0, 2, 3])] Q R 400 33 [(0, .inr (.inl 38)), (1, .inr (.inl 18)), (2, .inl x2)] [] s := by
  have h18 := hI.fld 18 10 (by decide) rfl
  have zzy : sx_w true (x2 + (-1)) = x2 - 1 := by rw [px_wid (by omega) (by omega)]; omega
  repeat' (first | (with_reducible (rintro _ rfl)) | (with_reducible intro _) | (refine And.intro ?_ ?_) | (refine h_rt x2 0 s _ hI (by omega) (by omega) ?_) | (refine h_rt x2 1 s _ hI (by omega) (by omega) ?_) | (refine h_pair _ _ _ _ _ _ s _ hI hN (r26 (by omega)).1 (by omega) (r26 (by omega)).2 (by omega) (by omega) (by omega) (fun z t t1 t2 t3 => ?_)))
  all_goals (try dsimp only at *)
  all_goals (first | trivial | assumption | omega | (exfalso; omega) | (exact hQ0 (by omega)) | (have zz9 := hQ1 (by omega) _ t1 t2 t3; rw [← zzy] at zz9; exact zz9) | skip)
theorem w_dv_un70 {CALL : sx_Ca} {sL : Nat} {sx : Nat → Int32} {Q : Nat → sx_L → sx_S → Prop} {R : Int → sx_S → Prop} {G : Int → sx_S → Prop} (h_dv_pempty39 : ∀ (s : sx_S) (K : Int → sx_S → Prop), cx_I s → (∀ z : Int, (0 ≤ z ∧ z ≤ 1) → (s.1 39 6 = 0 → z = 1) → (s.1 39 6 ≠ 0 → z = 0) → K z s) → CALL 59 [.inr (.inl 39)] s K) {s : sx_S} {x2 x3 : Int} (h_st : x2 = 1 → s.1 39 6 ≠ 0 → ∀ K : Int → sx_S → Prop, (∀ z t, G z t → K z t) → CALL 71 [.inr (.inl 38)] s K) (hG : ∀ z t, G z t → z = 0 ∨ z = 1) (hI : cx_I s) (q2 : x2 = 0 ∨ x2 = 1) (q3 : 0 ≤ x3 ∧ x3 ≤ 1000000) (hK0 : x2 = 0 → R 0 s) (hK1 : x2 = 1 → s.1 39 6 = 0 → R 1 s) (hK2 : x2 = 1 → s.1 39 6 ≠ 0 → x3 = 1000000 → R 0 s) (hQ : x2 = 1 → s.1 39 6 ≠ 0 → x3 < 1000000 → ∀ z t, G z t → Q 70 [(0, .inr (.inl 38)), (2, .inl z), (3, .inl (x3 + 1))] t) : sx_wp true sL sx eX6_unifies CALL [(33, [0, 1, 2]), (70, [0, 2, 3])] Q R 400 70 [(0, .inr (.inl 38)), (2, .inl x2), (3, .inl x3)] [] s := by
  have h39 := hI.fld 39 6 (by decide) rfl
  have zzy : x3 < 1000000 → sx_w true (x3 + 1) = x3 + 1 := fun _ => px_wid (by omega) (by omega)
  repeat' (first | (with_reducible (rintro _ rfl)) | (with_reducible intro _) | (refine And.intro ?_ ?_) | (refine h_dv_pempty39 s _ hI (fun v v0 v1 v2 => ?_)) | (refine h_st (by omega) (by omega) _ (fun z t zzt => ?_)))
  all_goals (try dsimp only at *)
  all_goals (first | trivial | assumption | omega | (exfalso; omega) | (exact hG _ _ zzt) | (exact hK0 (by omega)) | (exact hK1 (by omega) (by omega)) | (exact hK2 (by omega) (by omega) (by omega)) | (have zz9 := hQ (by omega) (by omega) (by omega) _ _ zzt; rw [← zzy (by omega)] at zz9; exact zz9) | skip)
end
section
/-! ===== how many turns solving takes: what may still be looked at below a term ===== -/
/-- is the call, below the \ ls, just the unknown's name made long? -/
def vw_br (AR : Nat → List Int) (ls : List Int) (j : Nat) : Bool := decide (AR j = (ls.take (AR j).length).reverse)
def vw_tr (AR : Nat → List Int) (gb ge : Int → Nat) : rf_N → List Int → Nat
  | .leaf, _ => 0
  | .inner j q _ F X, ls => (if q.1 = 3 then max 1 (if vw_br AR ls j = true then gb q.2 else ge q.2) else if q.1 = 0 then vw_tr AR gb ge F (q.2 :: ls) else 1 + vw_tr AR gb ge F []) + vw_tr AR gb ge X []
theorem vw_tr_in (AR : Nat → List Int) (gb ge : Int → Nat) (j : Nat) (q : Int × Int) (u : Unit) (F X : rf_N) (ls : List Int) : vw_tr AR gb ge (.inner j q u F X) ls = (if q.1 = 3 then max 1 (if vw_br AR ls j = true then gb q.2 else ge q.2) else if q.1 = 0 then vw_tr AR gb ge F (q.2 :: ls) else 1 + vw_tr AR gb ge F []) + vw_tr AR gb ge X [] := rfl
theorem vw_tr_le {AR : Nat → List Int} {gb ge gb' ge' : Int → Nat} (hb : ∀ m, gb m ≤ gb' m) (he : ∀ m, ge m ≤ ge' m) : ∀ (A : rf_N) (ls : List Int), vw_tr AR gb ge A ls ≤ vw_tr AR gb' ge' A ls
  | .leaf, _ => Nat.le_refl _
  | .inner j q u F X, ls => by
    have h1 := vw_tr_le (AR := AR) hb he F (q.2 :: ls)
    have h2 := vw_tr_le (AR := AR) hb he F []
    have h3 := vw_tr_le (AR := AR) hb he X []
    have h4 := hb q.2
    have h5 := he q.2
    rw [vw_tr_in, vw_tr_in]
    by_cases c3 : q.1 = 3
    · rw [if_pos c3, if_pos c3]
      by_cases cb : vw_br AR ls j = true
      · rw [if_pos cb, if_pos cb]
        omega
      · rw [if_neg cb, if_neg cb]
        omega
    · rw [if_neg c3, if_neg c3]
      by_cases c0 : q.1 = 0
      · rw [if_pos c0, if_pos c0]
        omega
      · rw [if_neg c0, if_neg c0]
        omega
/-- t: how much may still be spent, and 1; a bare call costs 2, another 1; bd: what the unknowns are given -/
def vw (bd : Int → rf_N) (AR : Nat → List Int) : Nat → rf_N → List Int → Nat
  | 0, _, _ => 0
  | 1, A, ls => vw_tr AR (fun _ => 0) (fun _ => 0) A ls
  | t + 2, A, ls => vw_tr AR (fun m => vw bd AR t (bd m) []) (fun m => vw bd AR (t + 1) (bd m) []) A ls
section
variable {bd : Int → rf_N} {AR : Nat → List Int}
theorem vw_0 (A : rf_N) (ls : List Int) : vw bd AR 0 A ls = 0 := by
  unfold vw
  rfl
theorem vw_s : ∀ (t : Nat) (A : rf_N) (ls : List Int), vw bd AR (t + 1) A ls = vw_tr AR (fun m => vw bd AR (t - 1) (bd m) []) (fun m => vw bd AR t (bd m) []) A ls
  | 0, A, ls => by
    have e : (fun m => vw bd AR 0 (bd m) []) = (fun _ : Int => 0) := funext (fun m => vw_0 _ _)
    show vw bd AR 1 A ls = vw_tr AR (fun m => vw bd AR 0 (bd m) []) (fun m => vw bd AR 0 (bd m) []) A ls
    rw [e]
    rw [vw]
  | t + 1, A, ls => by
    show vw bd AR (t + 2) A ls = vw_tr AR (fun m => vw bd AR t (bd m) []) (fun m => vw bd AR (t + 1) (bd m) []) A ls
    rw [vw]
theorem vw_le_s : ∀ (t : Nat) (A : rf_N) (ls : List Int), vw bd AR t A ls ≤ vw bd AR (t + 1) A ls
  | 0, A, ls => by
    rw [vw_0]
    exact Nat.zero_le _
  | 1, A, ls => by
    rw [vw_s, vw_s]
    exact vw_tr_le (fun m => Nat.le_refl _) (fun m => vw_le_s 0 _ _) A ls
  | t + 2, A, ls => by
    rw [vw_s, vw_s]
    exact vw_tr_le (fun m => vw_le_s t _ _) (fun m => vw_le_s (t + 1) _ _) A ls
theorem vw_mono {t t' : Nat} (h : t ≤ t') (A : rf_N) (ls : List Int) : vw bd AR t A ls ≤ vw bd AR t' A ls := by
  induction h with
  | refl => exact Nat.le_refl _
  | step _ ih => exact Nat.le_trans ih (vw_le_s _ _ _)
theorem vw_lam {t j : Nat} {x : Int} {F : rf_N} {ls : List Int} : vw bd AR t (rf_n j 0 x F .leaf) ls = vw bd AR t F (x :: ls) := by
  cases t with
  | zero => rw [vw_0, vw_0]
  | succ t =>
    rw [vw_s, vw_s, vw_tr_in, if_neg vx_03, if_pos rfl]
    rfl
theorem vw_hd {t j : Nat} {k h : Int} {F : rf_N} {ls : List Int} (h0 : k ≠ 0) (h3 : k ≠ 3) : vw bd AR (t + 1) (rf_n j k h F .leaf) ls = 1 + vw bd AR (t + 1) F [] := by
  rw [vw_s, vw_s, vw_tr_in, if_neg h3, if_neg h0]
  rfl
def vw_sm (f : rf_N → Nat) : List rf_N → Nat
  | [] => 0
  | A :: l => f A + vw_sm f l
theorem vw_tr_el {gb ge : Int → Nat} : ∀ (F : rf_N), vw_tr AR gb ge F [] = vw_sm (fun A => vw_tr AR gb ge A []) (vx_el F)
  | .leaf => rfl
  | .inner j q u F X => by
    have ih := vw_tr_el (gb := gb) (ge := ge) X
    have l1 : vx_el (.inner j q u F X) = .inner j q () F .leaf :: vx_el X := rfl
    have e0 : vw_tr AR gb ge .leaf [] = 0 := rfl
    rw [l1, vw_tr_in, ih]
    show _ = vw_tr AR gb ge (.inner j q () F .leaf) [] + vw_sm _ (vx_el X)
    rw [vw_tr_in, e0, Nat.add_zero]
theorem vw_row (t : Nat) (F : rf_N) : vw bd AR t F [] = vw_sm (fun A => vw bd AR t A []) (vx_el F) := by
  cases t with
  | zero =>
    rw [vw_0]
    have : ∀ l : List rf_N, vw_sm (fun A => vw bd AR 0 A []) l = 0 := fun l => by
      induction l with
      | nil => rfl
      | cons A l ih =>
        show vw bd AR 0 A [] + vw_sm _ l = 0
        rw [ih, vw_0]
    rw [this]
  | succ t =>
    rw [vw_s, vw_tr_el]
    have e : (fun A => vw bd AR (t + 1) A []) = (fun A => vw_tr AR (fun m => vw bd AR (t - 1) (bd m) []) (fun m => vw bd AR t (bd m) []) A []) := funext (fun A => vw_s t A [])
    rw [e]
theorem vw_call {t j : Nat} {m : Int} {F : rf_N} {ls : List Int} : vw bd AR (t - 2) (bd m) [] ≤ vw bd AR t (rf_n j 3 m F .leaf) ls := by
  cases t with
  | zero =>
    rw [vw_0]
    exact Nat.zero_le _
  | succ t =>
    rw [vw_s, vw_tr_in, if_pos rfl, show t + 1 - 2 = t - 1 by omega]
    have h1 := vw_mono (bd := bd) (AR := AR) (show t - 1 ≤ t by omega) (bd m) []
    by_cases cb : vw_br AR ls j = true
    · rw [if_pos cb]
      dsimp only
      omega
    · rw [if_neg cb]
      dsimp only
      omega
theorem vw_callx {t j : Nat} {m : Int} {F : rf_N} {ls : List Int} (hb : vw_br AR ls j ≠ true) : vw bd AR (t - 1) (bd m) [] ≤ vw bd AR t (rf_n j 3 m F .leaf) ls := by
  cases t with
  | zero =>
    rw [vw_0]
    exact Nat.zero_le _
  | succ t =>
    rw [vw_s, vw_tr_in, if_pos rfl, show t + 1 - 1 = t by omega, if_neg hb]
    dsimp only
    omega
/-- a turn is always paid for -/
theorem vw_pos {t : Nat} {A : rf_N} {ls : List Int} (ht : 1 ≤ t) (hA : vx_sg A) (hl : ¬ vx_isl A) : 1 ≤ vw bd AR t A ls := by
  obtain ⟨j, k, h, F, rfl⟩ := hA
  obtain ⟨t, rfl⟩ : ∃ t', t = t' + 1 := ⟨t - 1, by omega⟩
  by_cases h3 : k = 3
  · subst h3
    rw [vw_s, vw_tr_in, if_pos rfl]
    omega
  · rw [vw_hd (fun q => hl ⟨j, h, F, by rw [q]⟩) h3]
    omega
end
/-- below n \ -/
def vw_lv : List Int → Int → List (Int × Int)
  | [], _ => []
  | x :: xs, L => (x, L + (xs.length : Int)) :: vw_lv xs L
theorem vw_lv_snoc {x L : Int} : ∀ {xs : List Int}, vw_lv (xs ++ [x]) L = vw_lv xs (L + 1) ++ [(x, L)]
  | [] => by
    show [(x, L + ((([] : List Int).length : Nat) : Int))] = [(x, L)]
    rw [List.length_nil]
    simp
  | y :: xs => by
    show (y, L + ((xs ++ [x]).length : Int)) :: vw_lv (xs ++ [x]) L = (y, L + 1 + (xs.length : Int)) :: (vw_lv xs (L + 1) ++ [(x, L)])
    rw [vw_lv_snoc, List.length_append, List.length_singleton, show L + ((xs.length + 1 : Nat) : Int) = L + 1 + (xs.length : Int) by omega]
theorem vw_lv_fst {L : Int} : ∀ {xs : List Int}, (vw_lv xs L).map Prod.fst = xs
  | [] => rfl
  | x :: xs => by
    show x :: (vw_lv xs L).map Prod.fst = _
    rw [vw_lv_fst]
theorem vw_lv_snd {L : Int} : ∀ {xs ys : List Int}, xs.length = ys.length → (vw_lv xs L).map Prod.snd = (vw_lv ys L).map Prod.snd
  | [], [], _ => rfl
  | [], _ :: _, h => by cases h
  | _ :: _, [], h => by cases h
  | x :: xs, y :: ys, h => by
    rw [List.length_cons, List.length_cons] at h
    show (L + (xs.length : Int)) :: (vw_lv xs L).map Prod.snd = (L + (ys.length : Int)) :: (vw_lv ys L).map Prod.snd
    rw [vw_lv_snd (xs := xs) (ys := ys) (by omega), show xs.length = ys.length by omega]
/-- the first n \, the innermost first -/
def vw_bn : Nat → rf_N → List Int
  | 0, _ => []
  | _ + 1, .leaf => []
  | n + 1, .inner _ q _ F _ => vw_bn n F ++ [q.2]
theorem vw_sl {bd : Int → rf_N} {AR : Nat → List Int} : ∀ {n : Nat} {A A' : rf_N} {c c' : List (Int × Int)} {L : Int}, vx_sl n A c L A' c' → (vw_bn n A).length = n ∧ c' = vw_lv (vw_bn n A) L ++ c ∧ ∀ t ls, vw bd AR t A ls = vw bd AR t A' (vw_bn n A ++ ls)
  | 0, A, A', c, c', L, ⟨h1, h2⟩ => ⟨rfl, h2.symm, fun t ls => by rw [h1]; rfl⟩
  | n + 1, A, A', c, c', L, ⟨j, x, F, e, h⟩ => by
    obtain ⟨h1, h2, h3⟩ := vw_sl (bd := bd) (AR := AR) h
    have eb : vw_bn (n + 1) A = vw_bn n F ++ [x] := by rw [e]; rfl
    rw [eb]
    refine ⟨by rw [List.length_append, List.length_singleton, h1], ?_, fun t ls => ?_⟩
    · rw [h2, vw_lv_snoc, List.append_assoc]
      rfl
    · rw [e, vw_lam, h3, List.append_assoc]
      rfl
theorem vx_sl_fun : ∀ {n : Nat} {A A' B' : rf_N} {c c' d d' : List (Int × Int)} {L M : Int}, vx_sl n A c L A' c' → vx_sl n A d M B' d' → A' = B'
  | 0, _, _, _, _, _, _, _, _, _, ⟨h1, _⟩, ⟨h2, _⟩ => h1.symm.trans h2
  | n + 1, A, A', B', c, c', d, d', L, M, ⟨j, x, F, e, h⟩, ⟨j', x', F', e', h'⟩ => by
    rw [e] at e'
    injection e' with _ _ _ e3
    rw [← e3] at h'
    exact vx_sl_fun h h'
theorem vx_sl_zz {th : Int → rf_N} : ∀ {n : Nat} {A A' : rf_N} {c c' : List (Int × Int)} {L : Int}, vx_sl n A c L A' c' → vx_zz th A' ≤ vx_zz th A
  | 0, _, _, _, _, _, ⟨h1, _⟩ => by
    rw [h1]
    exact Nat.le_refl _
  | n + 1, A, A', c, c', L, ⟨j, x, F, e, h⟩ => by
    have h1 := vx_sl_zz (th := th) h
    have h2 := vx_zz_lam (th := th) (j := j) (x := x) (F := F)
    rw [e]
    omega
/-- what the \ just taken off bind: by their levels -/
theorem vw_lk {xs : List Int} {L : Int} {c c' : List (Int × Int)} (hc : c' = vw_lv xs L ++ c) (hn : (c'.map Prod.fst).Nodup) (n : Nat) : ((xs.take n).reverse).map (dv_lk c') = (((vw_lv xs L).map Prod.snd).take n).reverse := by
  have key : xs.map (dv_lk c') = (vw_lv xs L).map Prod.snd := by
    have e : xs = (vw_lv xs L).map Prod.fst := vw_lv_fst.symm
    conv => lhs; rw [e]
    rw [List.map_map]
    refine List.map_congr_left (fun p hp => ?_)
    exact dv_lk_mem hn (by rw [hc]; exact List.mem_append_left _ hp)
  rw [List.map_reverse, List.map_take, key]
/-- two bare calls have the same ARGs -/
theorem vw_bare {AR : Nat → List Int} {xs ys : List Int} {L : Int} {c c' d d' : List (Int × Int)} {j j' : Nat} (hc : c' = vw_lv xs L ++ c) (hd : d' = vw_lv ys L ++ d) (hcn : (c'.map Prod.fst).Nodup) (hdn : (d'.map Prod.fst).Nodup) (hl : xs.length = ys.length) (ha : (AR j).length = (AR j').length) (h1 : vw_br AR xs j = true) (h2 : vw_br AR ys j' = true) : (AR j).map (dv_lk c') = (AR j').map (dv_lk d') := by
  have e1 := of_decide_eq_true h1
  have e2 := of_decide_eq_true h2
  have k1 := vw_lk hc hcn (AR j).length
  have k2 := vw_lk hd hdn (AR j').length
  rw [← e1] at k1
  rw [← e2] at k2
  rw [k1, k2, ha, vw_lv_snd hl]
end
section
/-! ===== the turns that a pair may still take ===== -/
theorem vw_cp {p q : Nat → Bool} : ∀ {l : List Nat}, (∀ x ∈ l, p x = true → q x = true) → l.countP p ≤ l.countP q
  | [], _ => Nat.le_refl _
  | x :: l, h => by
    have ih := vw_cp (l := l) (fun y hy => h y (List.mem_cons_of_mem _ hy))
    have hx := h x List.mem_cons_self
    rw [List.countP_cons, List.countP_cons]
    by_cases c : p x = true
    · rw [if_pos c, if_pos (hx c)]
      omega
    · rw [if_neg c]
      by_cases c' : q x = true
      · rw [if_pos c']
        omega
      · rw [if_neg c']
        omega
theorem vw_cp1 {p q : Nat → Bool} {x0 : Nat} (hp : p x0 = false) (hq : q x0 = true) : ∀ {l : List Nat}, (∀ x ∈ l, p x = true → q x = true) → x0 ∈ l → l.countP p + 1 ≤ l.countP q
  | [], _, h => absurd h List.not_mem_nil
  | x :: l, h, hm => by
    have hx := h x List.mem_cons_self
    have hl : ∀ y ∈ l, p y = true → q y = true := fun y hy => h y (List.mem_cons_of_mem _ hy)
    rw [List.countP_cons, List.countP_cons]
    by_cases e : x = x0
    · have ih := vw_cp hl
      rw [e, if_neg (by rw [hp]; decide), if_pos hq]
      omega
    · have ih := vw_cp1 hp hq hl (by
        rcases List.mem_cons.mp hm with q | q
        · exact absurd q.symm e
        · exact q)
      by_cases c : p x = true
      · rw [if_pos c, if_pos (hx c)]
        omega
      · rw [if_neg c]
        by_cases c' : q x = true
        · rw [if_pos c']
          omega
        · rw [if_neg c']
          omega
/-- how many of the first n unknowns are of size z at most -/
def vw_N (n : Nat) (th : Int → rf_N) (z : Nat) : Nat := (List.range n).countP (fun u : Nat => decide (vx_sz (th (u : Int)) ≤ z))
theorem vw_N_n {n : Nat} {th : Int → rf_N} {z : Nat} : vw_N n th z ≤ n := by
  have := List.countP_le_length (p := fun u : Nat => decide (vx_sz (th (u : Int)) ≤ z)) (l := List.range n)
  rw [List.length_range] at this
  exact this
theorem vw_N_mono {n : Nat} {th : Int → rf_N} {z z' : Nat} (h : z' ≤ z) : vw_N n th z' ≤ vw_N n th z := vw_cp (fun x _ hx => decide_eq_true (by have := of_decide_eq_true hx; omega))
theorem vw_N_lt {n : Nat} {th : Int → rf_N} {z z' : Nat} {u : Int} (u0 : 0 ≤ u) (un : u < (n : Int)) (hz : z' < z) (hu : vx_sz (th u) = z) : vw_N n th z' + 1 ≤ vw_N n th z := by
  have e : ((u.toNat : Nat) : Int) = u := Int.toNat_of_nonneg u0
  refine vw_cp1 (x0 := u.toNat) (decide_eq_false ?_) (decide_eq_true ?_) (fun x _ hx => decide_eq_true (by have := of_decide_eq_true hx; omega)) (List.mem_range.mpr (by omega))
  · rw [e]
    omega
  · rw [e]
    omega
theorem vw_N_lt2 {n : Nat} {th : Int → rf_N} {z z' : Nat} {u v : Int} (huv : u ≠ v) (u0 : 0 ≤ u) (un : u < (n : Int)) (v0 : 0 ≤ v) (vn : v < (n : Int)) (hz : z' < z) (hu : vx_sz (th u) = z) (hv : vx_sz (th v) = z) : vw_N n th z' + 2 ≤ vw_N n th z := by
  have e : ((u.toNat : Nat) : Int) = u := Int.toNat_of_nonneg u0
  have e' : ((v.toNat : Nat) : Int) = v := Int.toNat_of_nonneg v0
  have h1 : (List.range n).countP (fun x : Nat => decide (vx_sz (th (x : Int)) ≤ z')) + 1 ≤ (List.range n).countP (fun x : Nat => decide (vx_sz (th (x : Int)) ≤ z' ∨ x = u.toNat)) := by
    refine vw_cp1 (x0 := u.toNat) (decide_eq_false ?_) (decide_eq_true (Or.inr rfl)) (fun x _ hx => decide_eq_true (Or.inl (of_decide_eq_true hx))) (List.mem_range.mpr (by omega))
    rw [e]
    omega
  have h2 : (List.range n).countP (fun x : Nat => decide (vx_sz (th (x : Int)) ≤ z' ∨ x = u.toNat)) + 1 ≤ (List.range n).countP (fun x : Nat => decide (vx_sz (th (x : Int)) ≤ z)) := by
    refine vw_cp1 (x0 := v.toNat) (decide_eq_false ?_) (decide_eq_true ?_) (fun x _ hx => decide_eq_true ?_) (List.mem_range.mpr (by omega))
    · rw [e']
      omega
    · rw [e']
      omega
    · rcases of_decide_eq_true hx with q | q
      · omega
      · rw [q, e]
        omega
  unfold vw_N
  omega
/-- the unknown m is given the head C in the end -/
def vw_st (S : vx_S) (m : Int) (C : rf_N) : Prop := (∃ w B e, S.2.2.2.1 m = some (B, e) ∧ vw_wy S w B C) ∧ ∃ (j : Nat) (k h : Int) (F : rf_N), C = rf_n j k h F .leaf ∧ k ≠ 3
theorem vw_wy_fun {S : vx_S} {C C' : rf_N} (hC : ∃ (j : Nat) (k h : Int) (F : rf_N), C = rf_n j k h F .leaf ∧ k ≠ 3) (hC' : ∃ (j : Nat) (k h : Int) (F : rf_N), C' = rf_n j k h F .leaf ∧ k ≠ 3) : ∀ {w w' : List Int} {B : rf_N}, vw_wy S w B C → vw_wy S w' B C' → C = C'
  | [], [], B, h1, h2 => h1.symm.trans h2
  | [], m :: w', B, h1, ⟨j', F', B', e', q, _⟩ => by
    obtain ⟨j, k, h, F, e, n3⟩ := hC
    have h1' : B = C := h1
    rw [h1', e] at q
    injection q with _ q2
    exact absurd (Prod.mk.inj q2).1 n3
  | m :: w, [], B, ⟨j', F', B', e', q, _⟩, h2 => by
    obtain ⟨j, k, h, F, e, n3⟩ := hC'
    have h1' : B = C' := h2
    rw [h1', e] at q
    injection q with _ q2
    exact absurd (Prod.mk.inj q2).1 n3
  | m :: w, m' :: w', B, ⟨j, F, D, e, q, h1, h2⟩, ⟨j', F', D', e', q', h1', h2'⟩ => by
    rw [q] at q'
    injection q' with _ q2
    have em : m = m' := (Prod.mk.inj q2).2
    rw [← em, h1] at h1'
    have ed : D = D' := (Prod.mk.inj (Option.some.inj h1')).1
    rw [← ed] at h2'
    exact vw_wy_fun hC hC' h2 h2'
noncomputable def vw_bd (S : vx_S) (m : Int) : rf_N := @dite rf_N (∃ C, vw_st S m C) (Classical.propDecidable _) (fun h => Classical.choose h) (fun _ => .leaf)
theorem vw_bd_or (S : vx_S) (m : Int) : vw_bd S m = .leaf ∨ vw_st S m (vw_bd S m) := by
  unfold vw_bd
  by_cases h : ∃ C, vw_st S m C
  · rw [dif_pos h]
    exact Or.inr (Classical.choose_spec h)
  · rw [dif_neg h]
    exact Or.inl rfl
theorem vw_st_fun {S : vx_S} {m : Int} {C C' : rf_N} (h : vw_st S m C) (h' : vw_st S m C') : C = C' := by
  obtain ⟨⟨w, B, e, h1, h2⟩, h3⟩ := h
  obtain ⟨⟨w', B', e', h1', h2'⟩, h3'⟩ := h'
  rw [h1] at h1'
  have ed : B = B' := (Prod.mk.inj (Option.some.inj h1')).1
  rw [← ed] at h2'
  exact vw_wy_fun h3 h3' h2 h2'
theorem vw_bd_eq {S : vx_S} {m : Int} {C : rf_N} (h : vw_st S m C) : vw_bd S m = C := by
  have h' : vw_st S m (vw_bd S m) := by
    unfold vw_bd
    rw [dif_pos ⟨C, h⟩]
    exact Classical.choose_spec _
  exact vw_st_fun h' h
theorem vw_wy_le {S T : vx_S} (hle : vx_le S T) : ∀ {w : List Int} {A C : rf_N}, vw_wy S w A C → vw_wy T w A C
  | [], _, _, h => h
  | m :: w, A, C, ⟨j, F, B, e, h1, h2, h3⟩ => ⟨j, F, B, e, h1, hle.2.2.1 m B e h2, vw_wy_le hle h3⟩
theorem vw_wy_zz {S : vx_S} {th : Int → rf_N} (hS : vx_So S th) : ∀ {w : List Int} {A C : rf_N}, vw_wy S w A C → vx_zz th C = vx_zz th A
  | [], _, _, h => by
    have h' : _ = _ := h
    rw [h']
  | m :: w, A, C, ⟨j, F, B, e, h1, h2, h3⟩ => by
    rw [vw_wy_zz hS h3, h1, vx_zz_call, vx_zz_body hS h2]
def vw_OK (S : vx_S) (n : Nat) (th : Int → rf_N) (A B : rf_N) (f : Nat) : Prop := (∃ a b, a + b + vw_N n th (vx_zz th A) ≤ 5 ∧ f = vw (vw_bd S) S.2.2.2.2 (6 - 2 * a) A [] + vw (vw_bd S) S.2.2.2.2 (6 - 2 * b) B []) ∨ (A = B ∧ ∃ t, vw_N n th (vx_zz th A) + 1 ≤ t ∧ f = vw (vw_bd S) S.2.2.2.2 t A [])
def vw_PH (S : vx_S) (n : Nat) (th : Int → rf_N) : List dv_E → Nat → Prop
  | [], _ => True
  | p :: r, f => ∃ f1 f2, vw_OK S n th p.1.1 p.2.1.1 f1 ∧ vw_PH S n th r f2 ∧ f1 + f2 ≤ f
theorem vw_PH_zip {S : vx_S} {n : Nat} {th : Int → rf_N} {r : List dv_E} {f2 : Nat} {c e : List (Int × Int)} {L mk : Int} {fa fb : rf_N → Nat} (hr : vw_PH S n th r f2) : ∀ {l l' : List rf_N}, l.length = l'.length → (∀ (i : Nat) A B, l[i]? = some A → l'[i]? = some B → vw_OK S n th A B (fa A + fb B)) → vw_PH S n th (List.zipWith (fun a b => ((a, c), (b, e), L, mk)) l l' ++ r) (vw_sm fa l + vw_sm fb l' + f2)
  | [], [], _, _ => by
    show vw_PH S n th r (0 + 0 + f2)
    rw [Nat.zero_add]
    exact hr
  | [], _ :: _, h, _ => by cases h
  | _ :: _, [], h, _ => by cases h
  | A :: l, B :: l', h, hO => by
    rw [List.length_cons, List.length_cons] at h
    refine ⟨fa A + fb B, vw_sm fa l + vw_sm fb l' + f2, hO 0 A B rfl rfl, vw_PH_zip hr (by omega) (fun i A' B' e1 e2 => hO (i + 1) A' B' e1 e2), ?_⟩
    show _ ≤ (fa A + vw_sm fa l) + (fb B + vw_sm fb l') + f2
    omega
end
section
/-! ===== a pair is taken apart: what it may still take is less ===== -/
section
variable {S : vx_S} {AR : Nat → List Int} {bd : Int → rf_N}
theorem vw_hd_ls {t j : Nat} {k h : Int} {F : rf_N} {ls ls' : List Int} (h0 : k ≠ 0) (h3 : k ≠ 3) : vw bd AR t (rf_n j k h F .leaf) ls = vw bd AR t (rf_n j k h F .leaf) ls' := by
  cases t with
  | zero => rw [vw_0, vw_0]
  | succ t => rw [vw_hd h0 h3, vw_hd h0 h3]
theorem vw_hd_ge {t j : Nat} {k h : Int} {F : rf_N} {ls : List Int} (h0 : k ≠ 0) (h3 : k ≠ 3) : vw bd AR t F [] ≤ vw bd AR t (rf_n j k h F .leaf) ls ∧ (1 ≤ t → 1 + vw bd AR t F [] ≤ vw bd AR t (rf_n j k h F .leaf) ls) := by
  cases t with
  | zero =>
    rw [vw_0, vw_0]
    exact ⟨Nat.le_refl _, fun h => absurd h (by decide)⟩
  | succ t =>
    rw [vw_hd h0 h3]
    exact ⟨by omega, fun _ => Nat.le_refl _⟩
end
theorem vw_sm_0 : ∀ l : List rf_N, vw_sm (fun _ => 0) l = 0
  | [] => rfl
  | A :: l => by
    show 0 + vw_sm (fun _ => 0) l = 0
    rw [vw_sm_0]
/-- the head that is reached: the term itself, or what an unknown is given -/
theorem vw_way {S Sf : vx_S} {th : Int → rf_N} {w : List Int} {A C : rf_N} (hle : vx_le S Sf) (hC : ∃ (j : Nat) (k h : Int) (F : rf_N), C = rf_n j k h F .leaf ∧ k ≠ 3) (h : vw_wy S w A C) : A = C ∨ ∃ (j : Nat) (m : Int) (F : rf_N), A = rf_n j 3 m F .leaf ∧ vw_bd Sf m = C := by
  cases w with
  | nil => exact Or.inl h
  | cons m w =>
    obtain ⟨j, F, B, e, h1, h2, h3⟩ := h
    exact Or.inr ⟨j, m, F, h1, vw_bd_eq ⟨⟨w, B, e, hle.2.2.1 m B e h2, vw_wy_le hle h3⟩, hC⟩⟩
theorem vw_drop {tv tc : Int → rf_T} {tm : Int → Int → rf_T} {S Sf : vx_S} {n : Nat} {th : Int → rf_N} {p : dv_E} {A B : rf_N} {c e : List (Int × Int)} {L : Int} {f : Nat} (hD : vw_D tv tc tm S p A c B e L) (hO : vw_OK Sf n th p.1.1 p.2.1.1 f) : 1 ≤ f := by
  obtain ⟨hrd, h2, nA, nB⟩ := hD trivial
  obtain ⟨_, _, _, _, n1, _, sl, sr⟩ := hrd trivial
  obtain ⟨lt, t, s1, s2⟩ := h2 trivial
  have gA := (s1 trivial).1.2.1
  have gB := (s2 trivial).1.2.1
  rcases hO with ⟨a, b, h1, rfl⟩ | ⟨_, t, h1, rfl⟩
  · rw [(vw_sl sl).2.2, (vw_sl sr).2.2]
    by_cases q : a ≤ 2
    · have := vw_pos (bd := vw_bd Sf) (AR := Sf.2.2.2.2) (t := 6 - 2 * a) (ls := vw_bn n1 p.1.1 ++ []) (by omega) gA nA
      omega
    · have := vw_pos (bd := vw_bd Sf) (AR := Sf.2.2.2.2) (t := 6 - 2 * b) (ls := vw_bn n1 p.2.1.1 ++ []) (by omega) gB nB
      omega
  · rw [(vw_sl sl).2.2]
    exact vw_pos (by omega) gA nA
theorem vw_apart {tv tc : Int → rf_T} {tm : Int → Int → rf_T} {S Sf : vx_S} {n : Nat} {th : Int → rf_N} {p : dv_E} {r : List dv_E} {A B : rf_N} {c e c' e' : List (Int × Int)} {L mk : Int} {wa wb : List Int} {j j' : Nat} {k h k' h' : Int} {F F' : rf_N} {f f2 : Nat} (hle : vx_le S Sf) (hW : vx_W S) (hS : vx_So Sf th) (hpe : vx_pe th S.2.2.2.2 (dv_pe p)) (hmA : ∀ m, vx_mt m A → m < (n : Int)) (hmB : ∀ m, vx_mt m B → m < (n : Int)) (hD : vw_D tv tc tm S p A c B e L) (hne : vw_ne S A c B e) (hwa : vw_wy S wa A (rf_n j k h F .leaf)) (hwb : vw_wy S wb B (rf_n j' k' h' F' .leaf)) (hk : k ≠ 0 ∧ k ≠ 3 ∧ k' ≠ 0 ∧ k' ≠ 3) (hl : rf_len F = rf_len F') (hO : vw_OK Sf n th p.1.1 p.2.1.1 f) (hr : vw_PH Sf n th r f2) : ∃ g, g + 1 ≤ f ∧ vw_PH Sf n th (dv_zp F F' c' e' L mk ++ r) (g + f2) := by
  obtain ⟨hrd, h2, nA, nB⟩ := hD trivial
  obtain ⟨hiff, _, _, _, n1, _, sl, sr⟩ := hrd trivial
  obtain ⟨lt, ty, s1, s2⟩ := h2 trivial
  obtain ⟨⟨iA, gA, _⟩, _, ⟨_, ckA⟩, _⟩ := s1 trivial
  obtain ⟨⟨iB, gB, _⟩, _, ⟨_, ckB⟩, _⟩ := s2 trivial
  obtain ⟨k0, k3, k0', k3'⟩ := hk
  have hS0 := vx_So_le hW hle hS
  have hC : ∃ (i : Nat) (k1 h1 : Int) (F1 : rf_N), rf_n j k h F .leaf = rf_n i k1 h1 F1 .leaf ∧ k1 ≠ 3 := ⟨j, k, h, F, rfl, k3⟩
  have hC' : ∃ (i : Nat) (k1 h1 : Int) (F1 : rf_N), rf_n j' k' h' F' .leaf = rf_n i k1 h1 F1 .leaf ∧ k1 ≠ 3 := ⟨j', k', h', F', rfl, k3'⟩
  -- sizes
  have hpe' : vx_pe th S.2.2.2.2 ((A, dv_lk c), (B, dv_lk e), L) := (hiff th hS0).mp hpe
  have hzz : vx_zz th A = vx_zz th B := by
    have q := congrArg vx_sz hpe'
    rw [vx_sz_val (fun m => (hS0.1 m).1), vx_sz_val (fun m => (hS0.1 m).1)] at q
    exact q
  have zA := vw_wy_zz hS0 hwa
  have zB := vw_wy_zz hS0 hwb
  have zl := vx_sl_zz (th := th) sl
  have cz : ∀ X ∈ vx_el F, vx_zz th X < vx_zz th A := fun X hX => by
    have := vx_zz_lt (th := th) (j := j) (h := h) k3 hX
    omega
  have Nz : vw_N n th (vx_zz th A) ≤ vw_N n th (vx_zz th p.1.1) := vw_N_mono zl
  have lens : (vx_el F).length = (vx_el F').length := by rw [vx_el_len, vx_el_len, hl]
  obtain ⟨bl1, bc1, bv1⟩ := vw_sl (bd := vw_bd Sf) (AR := Sf.2.2.2.2) sl
  obtain ⟨bl2, bc2, bv2⟩ := vw_sl (bd := vw_bd Sf) (AR := Sf.2.2.2.2) sr
  have wA := vw_way (th := th) hle hC hwa
  have wB := vw_way (th := th) hle hC' hwb
  have mA : ∀ {i : Nat} {m : Int} {G : rf_N}, A = rf_n i 3 m G .leaf → 0 ≤ m ∧ m < (n : Int) ∧ vx_sz (th m) = vx_zz th A ∧ Sf.2.2.2.2 i = S.2.2.2.2 i ∧ ((S.2.2.2.2 i).length : Int) = S.2.2.1 m := fun {i m G} q => by
    have hm : vx_mt m A := by rw [q]; exact Or.inl ⟨rfl, rfl⟩
    refine ⟨(iA.1 m hm).1, hmA m hm, by rw [q, vx_zz_call], hle.2.2.2 i (iA.2.1 i (by rw [q]; exact List.mem_cons_self)), ?_⟩
    rw [q] at iA
    exact vx_in_len iA
  have mB : ∀ {i : Nat} {m : Int} {G : rf_N}, B = rf_n i 3 m G .leaf → 0 ≤ m ∧ m < (n : Int) ∧ vx_sz (th m) = vx_zz th B ∧ Sf.2.2.2.2 i = S.2.2.2.2 i ∧ ((S.2.2.2.2 i).length : Int) = S.2.2.1 m := fun {i m G} q => by
    have hm : vx_mt m B := by rw [q]; exact Or.inl ⟨rfl, rfl⟩
    refine ⟨(iB.1 m hm).1, hmB m hm, by rw [q, vx_zz_call], hle.2.2.2 i (iB.2.1 i (by rw [q]; exact List.mem_cons_self)), ?_⟩
    rw [q] at iB
    exact vx_in_len iB
  -- on the diagonal
  have diag : ∀ t, F = F' → (∀ X ∈ vx_el F, vw_N n th (vx_zz th X) + 1 ≤ t) → vw (vw_bd Sf) Sf.2.2.2.2 t (rf_n j k h F .leaf) [] ≤ f → 1 ≤ t → ∃ g, g + 1 ≤ f ∧ vw_PH Sf n th (dv_zp F F' c' e' L mk ++ r) (g + f2) := fun t eF hN hf ht => by
    refine ⟨vw_sm (fun X => vw (vw_bd Sf) Sf.2.2.2.2 t X []) (vx_el F) + vw_sm (fun _ => 0) (vx_el F'), ?_, vw_PH_zip hr lens (fun i X Y eX eY => Or.inr ?_)⟩
    · rw [vw_sm_0, ← vw_row]
      have := (vw_hd_ge (bd := vw_bd Sf) (AR := Sf.2.2.2.2) (t := t) (j := j) (h := h) (F := F) (ls := []) k0 k3).2 ht
      omega
    · rw [← eF, eX] at eY
      have eXY := Option.some.inj eY
      exact ⟨eXY, t, hN X (List.mem_of_getElem? eX), rfl⟩
  -- off the diagonal
  have off : ∀ a b, (∀ X ∈ vx_el F, a + b + vw_N n th (vx_zz th X) ≤ 5) → a + b ≤ 5 → vw (vw_bd Sf) Sf.2.2.2.2 (6 - 2 * a) (rf_n j k h F .leaf) [] + vw (vw_bd Sf) Sf.2.2.2.2 (6 - 2 * b) (rf_n j' k' h' F' .leaf) [] ≤ f → ∃ g, g + 1 ≤ f ∧ vw_PH Sf n th (dv_zp F F' c' e' L mk ++ r) (g + f2) := fun a b hN hab hf => by
    refine ⟨vw_sm (fun X => vw (vw_bd Sf) Sf.2.2.2.2 (6 - 2 * a) X []) (vx_el F) + vw_sm (fun X => vw (vw_bd Sf) Sf.2.2.2.2 (6 - 2 * b) X []) (vx_el F'), ?_, vw_PH_zip hr lens (fun i X Y eX eY => Or.inl ⟨a, b, hN X (List.mem_of_getElem? eX), rfl⟩)⟩
    rw [← vw_row, ← vw_row]
    obtain ⟨p1, p2⟩ := vw_hd_ge (bd := vw_bd Sf) (AR := Sf.2.2.2.2) (t := 6 - 2 * a) (j := j) (h := h) (F := F) (ls := []) k0 k3
    obtain ⟨p3, p4⟩ := vw_hd_ge (bd := vw_bd Sf) (AR := Sf.2.2.2.2) (t := 6 - 2 * b) (j := j') (h := h') (F := F') (ls := []) k0' k3'
    by_cases q : a ≤ 2
    · have := p2 (by omega)
      omega
    · have := p4 (by omega)
      omega
  rcases hO with ⟨a, b, hab, rfl⟩ | ⟨ep, t, ht, rfl⟩
  · rw [bv1, bv2] at diag off
    rw [List.append_nil, List.append_nil] at diag off
    rw [bv1, bv2, List.append_nil, List.append_nil]
    rcases wA with eA | ⟨i, m, G, eA, bA⟩
    · rcases wB with eB | ⟨i', m', G', eB, bB⟩
      · refine off a b (fun X hX => ?_) (by omega) ?_
        · have := vw_N_mono (n := n) (th := th) (Nat.le_of_lt (cz X hX))
          omega
        · rw [eA, eB, vw_hd_ls (ls := vw_bn n1 p.1.1) (ls' := []) k0 k3, vw_hd_ls (ls := vw_bn n1 p.2.1.1) (ls' := []) k0' k3']
          exact Nat.le_refl _
      · obtain ⟨m0, mn, ms, _⟩ := mB eB
        refine off a (b + 1) (fun X hX => ?_) ?_ ?_
        · have := vw_N_lt (n := n) (th := th) m0 mn (cz X hX) (by omega)
          omega
        · have := vw_N_lt (n := n) (th := th) (z' := 0) m0 mn (z := vx_zz th A) (by rw [eA, vx_zz_in, if_neg k3]; omega) (by omega)
          omega
        · rw [eA, eB, vw_hd_ls (ls := vw_bn n1 p.1.1) (ls' := []) k0 k3, ← bB, show 6 - 2 * (b + 1) = 6 - 2 * b - 2 by omega]
          have := vw_call (bd := vw_bd Sf) (AR := Sf.2.2.2.2) (t := 6 - 2 * b) (j := i') (m := m') (F := G') (ls := vw_bn n1 p.2.1.1)
          omega
    · obtain ⟨m0, mn, ms, ear, lar⟩ := mA eA
      have hz0 : ∃ z', z' < vx_zz th A := ⟨0, by rw [← zA, vx_zz_in, if_neg k3]; omega⟩
      obtain ⟨z0, hz0⟩ := hz0
      rcases wB with eB | ⟨i', m', G', eB, bB⟩
      · refine off (a + 1) b (fun X hX => ?_) ?_ ?_
        · have := vw_N_lt (n := n) (th := th) m0 mn (cz X hX) ms
          omega
        · have := vw_N_lt (n := n) (th := th) m0 mn hz0 ms
          omega
        · rw [eA, eB, vw_hd_ls (ls := vw_bn n1 p.2.1.1) (ls' := []) k0' k3', ← bA, show 6 - 2 * (a + 1) = 6 - 2 * a - 2 by omega]
          have := vw_call (bd := vw_bd Sf) (AR := Sf.2.2.2.2) (t := 6 - 2 * a) (j := i) (m := m) (F := G) (ls := vw_bn n1 p.1.1)
          omega
      · obtain ⟨m0', mn', ms', ear', lar'⟩ := mB eB
        by_cases em : m = m'
        · subst em
          have eC : rf_n j k h F .leaf = rf_n j' k' h' F' .leaf := bA.symm.trans bB
          have eF : F = F' := by
            injection eC
          have bt : ∀ X ∈ vx_el F, vw_N n th (vx_zz th X) + 1 ≤ vw_N n th (vx_zz th A) := fun X hX => vw_N_lt m0 mn (cz X hX) ms
          have N1 := vw_N_lt (n := n) (th := th) m0 mn hz0 ms
          rw [eA, eB] at diag ⊢
          have c1 := vw_call (bd := vw_bd Sf) (AR := Sf.2.2.2.2) (t := 6 - 2 * a) (j := i) (m := m) (F := G) (ls := vw_bn n1 p.1.1)
          have c2 := vw_call (bd := vw_bd Sf) (AR := Sf.2.2.2.2) (t := 6 - 2 * b) (j := i') (m := m) (F := G') (ls := vw_bn n1 p.2.1.1)
          rcases Nat.lt_trichotomy a b with q | q | q
          · refine diag (6 - 2 * a - 2) eF (fun X hX => ?_) (by rw [← bA]; omega) (by omega)
            have := bt X hX
            omega
          · subst q
            refine diag (6 - 2 * a - 1) eF (fun X hX => ?_) ?_ (by omega)
            · have := bt X hX
              omega
            · rw [← bA]
              by_cases b1 : vw_br Sf.2.2.2.2 (vw_bn n1 p.1.1) i = true
              · by_cases b2 : vw_br Sf.2.2.2.2 (vw_bn n1 p.2.1.1) i' = true
                · exfalso
                  refine hne i i' m G G' eA eB ?_
                  have := vw_bare (AR := Sf.2.2.2.2) (j := i) (j' := i') bc1 bc2 (ckA trivial).1 (ckB trivial).1 (by omega) (by rw [ear, ear']; omega) b1 b2
                  rw [ear, ear'] at this
                  exact this
                · have := vw_callx (bd := vw_bd Sf) (AR := Sf.2.2.2.2) (t := 6 - 2 * a) (j := i') (m := m) (F := G') (ls := vw_bn n1 p.2.1.1) b2
                  omega
              · have := vw_callx (bd := vw_bd Sf) (AR := Sf.2.2.2.2) (t := 6 - 2 * a) (j := i) (m := m) (F := G) (ls := vw_bn n1 p.1.1) b1
                omega
          · refine diag (6 - 2 * b - 2) eF (fun X hX => ?_) (by rw [← bA]; omega) (by omega)
            have := bt X hX
            omega
        · refine off (a + 1) (b + 1) (fun X hX => ?_) ?_ ?_
          · have := vw_N_lt2 (n := n) (th := th) em m0 mn m0' mn' (cz X hX) ms (by omega)
            omega
          · have := vw_N_lt2 (n := n) (th := th) em m0 mn m0' mn' hz0 ms (by omega)
            omega
          · rw [eA, eB, ← bA, ← bB, show 6 - 2 * (a + 1) = 6 - 2 * a - 2 by omega, show 6 - 2 * (b + 1) = 6 - 2 * b - 2 by omega]
            have c1 := vw_call (bd := vw_bd Sf) (AR := Sf.2.2.2.2) (t := 6 - 2 * a) (j := i) (m := m) (F := G) (ls := vw_bn n1 p.1.1)
            have c2 := vw_call (bd := vw_bd Sf) (AR := Sf.2.2.2.2) (t := 6 - 2 * b) (j := i') (m := m') (F := G') (ls := vw_bn n1 p.2.1.1)
            omega
  · have eAB : A = B := by
      rw [← ep] at sr
      exact vx_sl_fun sl sr
    have eC : rf_n j k h F .leaf = rf_n j' k' h' F' .leaf := vw_wy_fun hC hC' hwa (by rw [eAB]; exact hwb)
    have eF : F = F' := by
      injection eC
    rw [bv1, List.append_nil] at diag
    rw [bv1, List.append_nil]
    rcases wA with eA | ⟨i, m, G, eA, bA⟩
    · refine diag t eF (fun X hX => ?_) ?_ (by omega)
      · have := vw_N_mono (n := n) (th := th) (Nat.le_of_lt (cz X hX))
        omega
      · rw [eA, vw_hd_ls (ls := vw_bn n1 p.1.1) (ls' := []) k0 k3]
        exact Nat.le_refl _
    · obtain ⟨m0, mn, ms, ear, lar⟩ := mA eA
      refine diag (t - 1) eF (fun X hX => ?_) ?_ ?_
      · have := vw_N_lt (n := n) (th := th) m0 mn (cz X hX) ms
        omega
      · rw [eA, ← bA]
        refine vw_callx (fun b1 => ?_)
        refine hne i i m G G eA (by rw [← eAB]; exact eA) ?_
        have := vw_bare (AR := Sf.2.2.2.2) (j := i) (j' := i) bc1 bc2 (ckA trivial).1 (ckB trivial).1 (by omega) rfl b1 (by rw [← ep]; exact b1)
        rw [ear] at this
        exact this
      · have := vw_N_lt (n := n) (th := th) m0 mn (z' := 0) (z := vx_zz th A) (by rw [← zA, vx_zz_in, if_neg k3]; omega) ms
        omega
end
section
/-! ===== parts of the text's sides ===== -/
def vw_su (C : rf_N) : rf_N → Prop
  | .leaf => False
  | .inner j q _ F X => C = .inner j q () F .leaf ∨ (q.1 ≠ 3 ∧ vw_su C F) ∨ vw_su C X
theorem vw_su_el {C : rf_N} : ∀ {F : rf_N}, C ∈ vx_el F → vw_su C F
  | .leaf, h => absurd h List.not_mem_nil
  | .inner j q u F X, h => by
    rcases List.mem_cons.mp h with h | h
    · exact Or.inl h
    · exact Or.inr (Or.inr (vw_su_el h))
theorem vw_su_self {C : rf_N} (h : vx_sg C) : vw_su C C := by
  obtain ⟨j, k, hh, F, rfl⟩ := h
  exact Or.inl rfl
theorem vw_su_t {C D : rf_N} (hD : vx_sg D) (h1 : vw_su C D) : ∀ {T : rf_N}, vw_su D T → vw_su C T
  | .leaf, h => h.elim
  | .inner j q u F X, h => by
    rcases h with h | ⟨h3, h⟩ | h
    · rw [h] at h1
      rcases h1 with h1 | h1 | h1
      · exact Or.inl h1
      · exact Or.inr (Or.inl h1)
      · exact h1.elim
    · exact Or.inr (Or.inl ⟨h3, vw_su_t hD h1 h⟩)
    · exact Or.inr (Or.inr (vw_su_t hD h1 h))
theorem vw_su_mt {m : Int} {C : rf_N} (hm : vx_mt m C) : ∀ {T : rf_N}, vw_su C T → vx_mt m T
  | .leaf, h => h.elim
  | .inner j q u F X, h => by
    rcases h with h | ⟨h3, h⟩ | h
    · rw [h] at hm
      rcases hm with hm | hm | hm
      · exact Or.inl hm
      · exact Or.inr (Or.inl hm)
      · exact hm.elim
    · exact Or.inr (Or.inl ⟨h3, vw_su_mt hm h⟩)
    · exact Or.inr (Or.inr (vw_su_mt hm h))
/-- the text's equations: both sides -/
abbrev vw_L : Type := List (rf_N × rf_N)
def vw_M (l : vw_L) (C : rf_N) : Prop := ∃ q ∈ l, vw_su C q.1 ∨ vw_su C q.2
theorem vw_M_t {l : vw_L} {C D : rf_N} (hD : vx_sg D) (h1 : vw_su C D) (h : vw_M l D) : vw_M l C := by
  obtain ⟨q, hq, h⟩ := h
  exact ⟨q, hq, h.imp (vw_su_t hD h1) (vw_su_t hD h1)⟩
theorem vw_M_sl {l : vw_L} : ∀ {n : Nat} {A A' : rf_N} {c c' : List (Int × Int)} {L : Int}, vx_sg A' → vx_sl n A c L A' c' → vw_M l A → vw_M l A'
  | 0, A, A', c, c', L, _, ⟨h1, _⟩, h => by
    rw [← h1]
    exact h
  | n + 1, A, A', c, c', L, hs, ⟨j, x, F, e, h1⟩, h => by
    have sF : vx_sg F := by
      cases n with
      | zero =>
        have e1 : F = A' := h1.1
        rw [e1]
        exact hs
      | succ n =>
        obtain ⟨j', x', F', e', _⟩ := h1
        exact ⟨j', 0, x', F', e'⟩
    exact vw_M_sl hs h1 (vw_M_t (D := A) ⟨j, 0, x, F, e⟩ (by rw [e]; exact Or.inr (Or.inl ⟨vx_03, vw_su_self sF⟩)) h)
theorem vw_wy_end {S : vx_S} : ∀ {w : List Int} {A C : rf_N}, vw_wy S w A C → A = C ∨ ∃ m e, S.2.2.2.1 m = some (C, e)
  | [], _, _, h => Or.inl h
  | m :: w, A, C, ⟨j, F, B, e, _, h2, h3⟩ => by
    rcases vw_wy_end h3 with h | h
    · exact Or.inr ⟨m, e, by rw [h2, h]⟩
    · exact Or.inr h
/-- what all sides may take at most -/
noncomputable def vw_F (S : vx_S) : vw_L → Nat
  | [] => 0
  | q :: l => vw (vw_bd S) S.2.2.2.2 6 q.1 [] + vw (vw_bd S) S.2.2.2.2 6 q.2 [] + vw_F S l
/-- the bodies are parts of the text -/
def vw_B (l : vw_L) (S : vx_S) : Prop := ∀ u C e, S.2.2.2.1 u = some (C, e) → vx_isc C ∨ vw_M l C
/-- x turns are done; what is left -/
def vw_TI (l : vw_L) (n : Nat) (Qs : (Int → rf_N) → Prop) (x : Nat) (S : vx_S) (r : List dv_E) : Prop := True → (∀ p ∈ r, vw_M l p.1.1 ∧ vw_M l p.2.1.1) ∧ vw_B l S ∧ ∀ Sf th, vx_le S Sf → vx_So Sf th → Qs th → ∃ f, vw_PH Sf n th r f ∧ x + f ≤ vw_F Sf l
theorem vw_M_zp {l : vw_L} {j j' : Nat} {k h k' h' L mk : Int} {F F' : rf_N} {c e : List (Int × Int)} (h3 : k ≠ 3) (h3' : k' ≠ 3) (hA : vw_M l (rf_n j k h F .leaf)) (hB : vw_M l (rf_n j' k' h' F' .leaf)) : ∀ p ∈ dv_zp F F' c e L mk, vw_M l p.1.1 ∧ vw_M l p.2.1.1 := by
  have key : ∀ (a b : List rf_N), (∀ X ∈ a, X ∈ vx_el F) → (∀ X ∈ b, X ∈ vx_el F') → ∀ p ∈ List.zipWith (fun a b => (((a, c), (b, e), L, mk) : dv_E)) a b, vw_M l p.1.1 ∧ vw_M l p.2.1.1 := by
    intro a
    induction a with
    | nil =>
      intro b _ _ p hp
      rw [List.zipWith_nil_left] at hp
      exact absurd hp List.not_mem_nil
    | cons X a ih =>
      intro b ha hb p hp
      cases b with
      | nil =>
        rw [List.zipWith_nil_right] at hp
        exact absurd hp List.not_mem_nil
      | cons Y b =>
        rw [List.zipWith_cons_cons] at hp
        rcases List.mem_cons.mp hp with hp | hp
        · rw [hp]
          exact ⟨vw_M_t ⟨j, k, h, F, rfl⟩ (Or.inr (Or.inl ⟨h3, vw_su_el (ha X List.mem_cons_self)⟩)) hA, vw_M_t ⟨j', k', h', F', rfl⟩ (Or.inr (Or.inl ⟨h3', vw_su_el (hb Y List.mem_cons_self)⟩)) hB⟩
        · exact ih b (fun Z hZ => ha Z (List.mem_cons_of_mem _ hZ)) (fun Z hZ => hb Z (List.mem_cons_of_mem _ hZ)) p hp
  exact key _ _ (fun _ h => h) (fun _ h => h)
/-- a turn more -/
theorem vw_TI_st {tv tc : Int → rf_T} {tm : Int → Int → rf_T} {l : vw_L} {n0 : Int} {Qs : (Int → rf_N) → Prop} {x : Nat} {S S' : vx_S} {p : dv_E} {r r' : List dv_E} (hn : ∀ m C, vw_M l C → vx_mt m C → m < n0) (n00 : 0 ≤ n0) (hW : vx_W S) (hle : vx_le S S') (hJ : ∀ th, vx_So S th → Qs th → vx_pe th S.2.2.2.2 (dv_pe p)) (h : vw_TI l n0.toNat Qs x S (p :: r)) (hT : vw_ST tv tc tm S S' p r r') : vw_TI l n0.toNat Qs (x + 1) S' r' := fun _ => by
  obtain ⟨h1, h2, h3⟩ := h trivial
  obtain ⟨A, c, B, e, L, hD, hT⟩ := hT trivial
  obtain ⟨hrd, hv2, nA, nB⟩ := hD trivial
  obtain ⟨_, _, _, _, n1, _, sl, sr⟩ := hrd trivial
  obtain ⟨lt, ty, s1, s2⟩ := hv2 trivial
  have gA := (s1 trivial).1.2.1
  have gB := (s2 trivial).1.2.1
  obtain ⟨mpA, mpB⟩ := h1 p List.mem_cons_self
  have mA := vw_M_sl gA sl mpA
  have mB := vw_M_sl gB sr mpB
  have en : ((n0.toNat : Nat) : Int) = n0 := Int.toNat_of_nonneg n00
  have wyM : ∀ {w : List Int} {X C : rf_N}, vw_M l X → vw_wy S w X C → vx_isc C ∨ vw_M l C := fun {w X C} hX hw => by
    rcases vw_wy_end hw with q | ⟨m, em, q⟩
    · rw [← q]
      exact Or.inr hX
    · exact h2 m C em q
  rcases hT with ⟨rfl, hl2⟩ | ⟨rfl, hne, wa, wb, j, k, h, F, j', k', h', F', c', e', mk, hwa, hwb, hk, hlen, rfl⟩
  · refine ⟨fun q hq => h1 q (List.mem_cons_of_mem _ hq), fun u C eC hu => ?_, fun Sf th hf hSf hQ => ?_⟩
    · rcases hl2.2 u C eC hu with q | q | ⟨w, q | q⟩
      · exact h2 u C eC q
      · exact Or.inl q
      · exact wyM mA q
      · exact wyM mB q
    · obtain ⟨f, ⟨f1, f2, o1, o2, o3⟩, hf2⟩ := h3 Sf th (vx_le_trans hle hf) hSf hQ
      have := vw_drop hD o1
      exact ⟨f2, o2, by omega⟩
  · obtain ⟨k0, k3, k0', k3'⟩ := hk
    have hA : vw_M l (rf_n j k h F .leaf) := by
      rcases wyM mA hwa with ⟨i, m, G, q⟩ | q
      · injection q with _ q2
        exact absurd (Prod.mk.inj q2).1 k3
      · exact q
    have hB : vw_M l (rf_n j' k' h' F' .leaf) := by
      rcases wyM mB hwb with ⟨i, m, G, q⟩ | q
      · injection q with _ q2
        exact absurd (Prod.mk.inj q2).1 k3'
      · exact q
    refine ⟨fun q hq => ?_, h2, fun Sf th hf hSf hQ => ?_⟩
    · rcases List.mem_append.mp hq with hq | hq
      · exact vw_M_zp k3 k3' hA hB q hq
      · exact h1 q (List.mem_cons_of_mem _ hq)
    · obtain ⟨f, ⟨f1, f2, o1, o2, o3⟩, hf2⟩ := h3 Sf th hf hSf hQ
      obtain ⟨g, g1, g2⟩ := vw_apart (c' := c') (e' := e') (mk := mk) hf hW hSf (hJ th (vx_So_le hW hf hSf) hQ) (fun m hm => by rw [en]; exact hn m A mA hm) (fun m hm => by rw [en]; exact hn m B mB hm) hD hne hwa hwb ⟨k0, k3, k0', k3'⟩ hlen o1 o2
      exact ⟨g + f2, g2, by omega⟩
/-- before the first -/
theorem vw_TI_0 {l : vw_L} {n0 : Int} {Qs : (Int → rf_N) → Prop} {S : vx_S} {r : List dv_E} (hn : n0.toNat ≤ 5) (hr : r.map (fun p => (p.1.1, p.2.1.1)) = l) (hg : ∀ q ∈ l, vx_sg q.1 ∧ vx_sg q.2) (hb : ∀ u, S.2.2.2.1 u = none) : vw_TI l n0.toNat Qs 0 S r := fun _ => by
  refine ⟨fun p hp => ?_, (by intro u C e hu; rw [hb u] at hu; cases hu), fun Sf th _ _ _ => ⟨vw_F Sf l, ?_, (by omega)⟩⟩
  · have hq : (p.1.1, p.2.1.1) ∈ l := by
      rw [← hr]
      exact List.mem_map_of_mem hp
    exact ⟨⟨_, hq, Or.inl (vw_su_self (hg _ hq).1)⟩, ⟨_, hq, Or.inr (vw_su_self (hg _ hq).2)⟩⟩
  · clear hg
    subst hr
    induction r with
    | nil => trivial
    | cons p r ih =>
      refine ⟨_, _, Or.inl ⟨0, 0, ?_, rfl⟩, ih, Nat.le_refl _⟩
      have := vw_N_n (n := n0.toNat) (th := th) (z := vx_zz th p.1.1)
      omega
end
section
/-! ===== unifies: the text's equations have a solution, or not ===== -/
/-- one side of an equation, as it is loaded -/
def dv_s1 (tv tc : Int → rf_T) (tm : Int → Int → rf_T) (S : vx_S) (t : rf_T) (A : rf_N) : Prop := True → (vx_in S A ∧ vx_sg A ∧ (vx_ty tv tc tm S.2.2.2.2 A).1 t) ∧ (∀ z, ¬ vx_fv (vx_U S) S.2.2.2.2 z A) ∧ vx_nb A (fun _ => False) ∧ (vx_lh A ≤ 67 ∧ vx_hh A ≤ 26 ∧ vx_hz A ≤ 1024)
theorem dv_s1_sd {tv tc : Int → rf_T} {tm : Int → Int → rf_T} {S : vx_S} {t : rf_T} {A : rf_N} (h : dv_s1 tv tc tm S t A) : vx_sd tv tc tm S (fun _ => rf_b) 0 t A [] := fun _ => by
  obtain ⟨h1, h2, h3, h4⟩ := h trivial
  refine ⟨h1, fun z hz => ?_, ⟨Int.le_refl _, fun _ => ⟨List.Pairwise.nil, fun p hp => absurd hp List.not_mem_nil, fun p hp => absurd hp List.not_mem_nil⟩⟩, fun z hz => absurd hz (h2 z), vx_nb_mono (fun z hz => absurd hz List.not_mem_nil) h3⟩
  exfalso
  have hz' : (0 : Int) ≤ -1 := hz
  omega
def dv_S0 (s : sx_S) (ar : Int → Int) (AR : Nat → List Int) : vx_S := (s.1 22 2, s.1 11 6, ar, fun _ => none, AR)
/-- the text as it is loaded -/
def dv_X (tv tc : Int → rf_T) (tm : Int → Int → rf_T) (s : sx_S) (ar : Int → Int) (AR : Nat → List Int) (l : vw_L) : Prop := True → (0 ≤ s.1 22 2 ∧ s.1 22 2 ≤ 5) ∧ (∀ u, 0 ≤ ar u ∧ ar u ≤ 4) ∧ s.1 11 6 ≤ 960 ∧ (s.1 18 10 = (l.length : Int) ∧ l.length ≤ 4) ∧ ∀ (k : Nat) A B, l[k]? = some (A, B) → (dv_at s AR A (s.2.1 26 (2 * k)) ∧ dv_at s AR B (s.2.1 26 (2 * k + 1))) ∧ ∃ t, dv_s1 tv tc tm (dv_S0 s ar AR) t A ∧ dv_s1 tv tc tm (dv_S0 s ar AR) t B
def dv_Q (AR : Nat → List Int) (l : vw_L) (th : Int → rf_N) : Prop := ∀ q ∈ l, vx_val th AR q.1 (dv_lk []) 0 = vx_val th AR q.2 (dv_lk []) 0
/-- the equations have a solution -/
def dv_sat (n0 : Int) (ar : Int → Int) (Qs : (Int → rf_N) → Prop) : Prop := ∃ th, vx_gd th ∧ (∀ u, 0 ≤ u → u < n0 → vx_sc (th u) (ar u)) ∧ Qs th
def dv_r0 (l : vw_L) : List dv_E := l.map (fun q => ((q.1, []), (q.2, []), 0, 0))
theorem vx_sm_c {f : Int → Nat} {c : Nat} (h : ∀ u, f u ≤ c) : ∀ n : Nat, vx_sm f n ≤ c * n
  | 0 => Nat.zero_le _
  | n + 1 => by
    have := vx_sm_c h n
    have := h (n : Int)
    rw [vx_sm_s, Nat.mul_succ]
    omega
theorem dv_CT0 {s : sx_S} {ar : Int → Int} {AR : Nat → List Int} (h0 : 0 ≤ s.1 22 2 ∧ s.1 22 2 ≤ 5) (ha : ∀ u, 0 ≤ ar u ∧ ar u ≤ 4) (hn : s.1 11 6 ≤ 960) : vx_CT (dv_S0 s ar AR) := fun _ => by
  have op : ∀ u, vx_op (dv_S0 s ar AR) u = 1 ∧ vx_rw (dv_S0 s ar AR) u = 0 := fun u => vx_op_1 rfl
  have aa : ∀ u, vx_aa (dv_S0 s ar AR) u ≤ 4 := fun u => by
    have := ha u
    show (ar u).toNat ≤ 4
    omega
  have n5 : (dv_S0 s ar AR).1.toNat ≤ 5 := by
    show (s.1 22 2).toNat ≤ 5
    omega
  have b1 := vx_sm_c (f := vx_rw (dv_S0 s ar AR)) (c := 0) (fun u => by rw [(op u).2]; exact Nat.le_refl _) (dv_S0 s ar AR).1.toNat
  have b2 := vx_sm_c (f := vx_op (dv_S0 s ar AR)) (c := 1) (fun u => by rw [(op u).1]; exact Nat.le_refl _) (dv_S0 s ar AR).1.toNat
  have b3 := vx_sm_c (f := vx_aa (dv_S0 s ar AR)) (c := 4) aa (dv_S0 s ar AR).1.toNat
  have sm : ∀ a, a ≤ 4 → a * (a - 1) / 2 ≤ 6 ∧ a * (a + 1) / 2 ≤ 10 := by decide
  have b4 := vx_sm_c (f := fun u => vx_op (dv_S0 s ar AR) u * (vx_aa (dv_S0 s ar AR) u * (vx_aa (dv_S0 s ar AR) u - 1) / 2)) (c := 6) (fun u => by
    try dsimp only
    rw [(op u).1, Nat.one_mul]
    exact (sm _ (aa u)).1) (dv_S0 s ar AR).1.toNat
  have b5 := vx_sm_c (f := fun u => vx_op (dv_S0 s ar AR) u * (vx_aa (dv_S0 s ar AR) u * (vx_aa (dv_S0 s ar AR) u + 1) / 2)) (c := 10) (fun u => by
    try dsimp only
    rw [(op u).1, Nat.one_mul]
    exact (sm _ (aa u)).2) (dv_S0 s ar AR).1.toNat
  have b6 := vx_sm_c (f := fun u => vx_op (dv_S0 s ar AR) u * vx_aa (dv_S0 s ar AR) u) (c := 4) (fun u => by
    try dsimp only
    rw [(op u).1, Nat.one_mul]
    exact aa u) (dv_S0 s ar AR).1.toNat
  have e1 : (dv_S0 s ar AR).1 = s.1 22 2 := rfl
  have e2 : (dv_S0 s ar AR).2.1 = s.1 11 6 := rfl
  have e3 : (dv_S0 s ar AR).1 ≤ 5 ∧ (dv_S0 s ar AR).2.1 ≤ 960 := ⟨by rw [e1]; omega, by rw [e2]; omega⟩
  exact ⟨(by rw [e1]; omega), (by omega), (by omega), (by omega), (by omega), fun u _ _ => ha u, fun u B e h => (by cases h)⟩
theorem dv_es0 {tv tc : Int → rf_T} {tm : Int → Int → rf_T} {S : vx_S} : ∀ {l : vw_L}, l.length ≤ 4 → (∀ q ∈ l, ∃ t, dv_s1 tv tc tm S t q.1 ∧ dv_s1 tv tc tm S t q.2) → dv_es tv tc tm S (dv_r0 l)
  | [], _, _ => trivial
  | q :: l, hl, h => by
    obtain ⟨t, h1, h2⟩ := h q List.mem_cons_self
    rw [List.length_cons] at hl
    obtain ⟨_, _, _, a1, a2, a3⟩ := h1 trivial
    obtain ⟨_, _, _, b1, b2, b3⟩ := h2 trivial
    refine ⟨⟨fun _ => ⟨_, t, dv_s1_sd h1, dv_s1_sd h2⟩, fun _ => ⟨[], [], ⟨vx_wu_nil _ _, vx_wu_nil _ _⟩, ⟨a1, a2, b1, b2, a3, b3⟩, ?_, ?_, ?_⟩⟩, dv_es0 (by omega) (fun q hq => h q (List.mem_cons_of_mem _ hq))⟩
    · show (0 : Int) + (vx_lh q.1 : Int) + (vx_lh q.2 : Int) ≤ _
      omega
    · show (0 : Int) + (vx_lh q.1 : Int) ≤ _
      omega
    · show (dv_r0 l).length + 3 * vx_hh q.1 ≤ _
      unfold dv_r0
      rw [List.length_map]
      omega
theorem dv_Q_ag {AR : Nat → List Int} {l : vw_L} {n0 : Int} (h : ∀ q ∈ l, (∀ m, vx_mt m q.1 → 0 ≤ m ∧ m < n0) ∧ ∀ m, vx_mt m q.2 → 0 ≤ m ∧ m < n0) : ∀ th th', vx_ag n0 th th' → dv_Q AR l th → dv_Q AR l th' := fun th th' ha hQ q hq => by
  have e1 : vx_val th AR q.1 (dv_lk []) 0 = vx_val th' AR q.1 (dv_lk []) 0 := vx_val_th (fun m hm => by
    have := (h q hq).1 m hm
    exact (ha m this.1 this.2).symm) (fun _ _ => rfl)
  have e2 : vx_val th AR q.2 (dv_lk []) 0 = vx_val th' AR q.2 (dv_lk []) 0 := vx_val_th (fun m hm => by
    have := (h q hq).2 m hm
    exact (ha m this.1 this.2).symm) (fun _ _ => rfl)
  rw [← e1, ← e2]
  exact hQ q hq
/-- the first state -/
theorem dv_G0 {tv tc : Int → rf_T} {tm : Int → Int → rf_T} {s u : sx_S} {ar : Int → Int} {AR : Nat → List Int} {l : vw_L} (hX : dv_X tv tc tm s ar AR l) (hI : cx_I u) (hF : cx_F [(29, 29), (33, 35), (39, 45)] s u) (h33 : u.1 33 6 = s.1 22 2) (h34 : ∀ i : Nat, i < 32 → u.2.1 34 i = -1) (h29 : u.1 29 3 = 0) (h39 : u.1 39 6 = (l.length : Int)) (hps : dv_ps u AR 0 (dv_r0 l)) : dv_G tv tc (s.1 22 2) (dv_Q AR l) u (dv_S0 s ar AR) (fun _ => []) tm [] (dv_r0 l) := fun _ => by
  obtain ⟨x1, x2, x3, ⟨x4, x5⟩, x6⟩ := hX trivial
  have x6' : ∀ q ∈ l, ∃ t, dv_s1 tv tc tm (dv_S0 s ar AR) t q.1 ∧ dv_s1 tv tc tm (dv_S0 s ar AR) t q.2 := fun q hq => by
    obtain ⟨i, hi, e⟩ := List.getElem_of_mem hq
    exact (x6 i q.1 q.2 (by rw [List.getElem?_eq_getElem hi, e])).2
  have nb : ∀ v, (dv_S0 s ar AR).2.2.2.1 v = none := fun _ => rfl
  have nc : ∀ {v : Int} {p : rf_N × (Int → Int)}, (dv_S0 s ar AR).2.2.2.1 v ≠ some p := fun {v p} h => by
    rw [nb] at h
    cases h
  have hM : dv_M u (dv_S0 s ar AR) (fun _ => []) := fun _ => by
    refine ⟨⟨h33, (by rw [(hF.same 11 rfl).1]; rfl), (by show s.1 22 2 ≤ 32; omega), fun v _ hv => h34 v hv⟩, fun v v0 v1 => ⟨(x2 v).2, Or.inl ⟨rfl, h34 v.toNat ?_⟩⟩⟩
    have v1' : v < s.1 22 2 := v1
    omega
  have hT : vx_TS tv tc tm (dv_S0 s ar AR) (fun _ => []) := fun _ => ⟨⟨fun v B e h => absurd h nc, ⟨fun v B e h => absurd h nc, fun v => (x2 v).1⟩, fun v B e z h => absurd h nc, fun _ => 0, fun v B e m h => absurd h nc⟩, fun v B e h => absurd h nc⟩
  refine ⟨hI, hM, hT, dv_CT0 x1 x2 x3, ⟨by rw [h29]; exact hps, ?_⟩, dv_es0 x5 x6', ?_⟩
  · rw [h39]
    unfold dv_r0
    rw [List.length_map]
  · have el : (dv_r0 l).map dv_pe = l.map (fun q => ((q.1, dv_lk []), (q.2, dv_lk []), 0)) := by
      unfold dv_r0
      rw [List.map_map]
      rfl
    rw [el]
    refine ⟨fun th _ hp q hq => hp _ (List.mem_map_of_mem hq), fun th _ hQ p hp => ?_, Int.le_refl _, fun th0 g0 s0 q0 => ⟨th0, ⟨g0, s0, fun v B e h => absurd h nc⟩, fun _ _ _ => rfl⟩⟩
    obtain ⟨q, hq, rfl⟩ := List.mem_map.mp hp
    exact hQ q hq
end
